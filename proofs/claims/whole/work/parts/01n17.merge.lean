section
/-! merge: over all predicates -/
/-- rows with KEYS of their own -/
def ukM (s : pPg) (M : Nat → List pRw) : Prop := ∀ p, p < s.1.length → pIn s.2.1 (p : Int) = true → 0 < qKy s p → ∀ w ∈ M p, ∀ w' ∈ M p, w.1.take (qKy s p) = w'.1.take (qKy s p) → w.1 = w'.1
theorem wKf_of {s : pPg} {M : Nat → List pRw} {F : List pFc} {p : Nat} (hok : qOk s) (hM : qTb s M) (hF : qFa s M F) (hu : ukM s M) (hp : p < s.1.length) (hi : pIn s.2.1 (p : Int) = true) (hk : 0 < qKy s p) : wKf F (qNm s p) (qKy s p) (qN s p) := by
  have row : ∀ v, (qNm s p, v) ∈ F → ∃ w, w ∈ M p ∧ w.1 = v := fun v hv => by
    obtain ⟨p', a1, a2, w, a3, a4⟩ := (hF.2 _).mp hv
    have := nm_inj hok hp a1 a2
    subst this
    exact ⟨w, a3, a4⟩
  refine ⟨hF.1, fun v hv => fa_w hok hM hF hp hv rfl, fun v v' hv hv' e => ?_⟩
  obtain ⟨w, w1, w2⟩ := row v hv
  obtain ⟨w', w1', w2'⟩ := row v' hv'
  rw [← w2, ← w2'] at e ⊢
  exact hu p hp hi hk w w1 w' w1' e
/-- all CHANGES from Z to B -/
def dfA (s : pPg) (B Z : List pFc) : Nat → List pPe
  | 0 => []
  | p + 1 => dfA s B Z p ++ (if pIn s.2.1 (p : Int) = true then dfC (-1) (qNm s p) Z B ++ dfC 1 (qNm s p) B Z else [])
/-- from p on -/
def dfB (s : pPg) (B Z : List pFc) (p : Nat) : Nat → List pPe
  | 0 => []
  | d + 1 => (if pIn s.2.1 (p : Int) = true then dfC (-1) (qNm s p) Z B ++ dfC 1 (qNm s p) B Z else []) ++ dfB s B Z (p + 1) d
theorem dfB_A {s : pPg} {B Z : List pFc} : ∀ (d p : Nat), dfA s B Z p ++ dfB s B Z p d = dfA s B Z (p + d)
  | 0, p => List.append_nil _
  | d + 1, p => by
    show dfA s B Z p ++ (_ ++ dfB s B Z (p + 1) d) = dfA s B Z (p + (d + 1))
    rw [← List.append_assoc, show p + (d + 1) = (p + 1) + d by omega]
    exact dfB_A d (p + 1)
section
variable {f o h b q c : Nat} {s : pPg}
theorem l_326_220 {B Z : List pFc} (hf : 7000 < f) (hh : h < 4) (ho : o = 123 + 29 * h) (hb : isFb (b + 1)) (hbo : b + 4 < o ∨ o + 28 < b + 1) (hsB : B.Pairwise fLt) (hsZ : Z.Pairwise fLt) (hok : qOk s) : ∀ (d p fu x : Nat) (G : xG_) (ps : List pPe), p + d = s.1.length → d < fu → rFa G (b + 1) B → rFa G 253 Z → rPr G 2 q c s → rPe G o ps → ps.length + (dfB s B Z p d).length ≤ 400 → x + (dfB s B Z p d).length ≤ 60000 →
    ∃ G', g326_220 f fu o b (x : Int) (p : Int) G = some (((x + (dfB s B Z p d).length : Nat) : Int), G') ∧ rPe G' o (ps ++ dfB s B Z p d) ∧ xfq o G G' := by
  have hnp := hok.1.1
  intro d
  induction d with
  | zero =>
    intro p fu x G ps h1 h2 h3 h4 h5 h6 h7 h8
    obtain ⟨fu, rfl⟩ : ∃ t, fu = t + 1 := ⟨fu - 1, by omega⟩
    refine ⟨G, ?_, by show rPe G o (ps ++ []); rw [List.append_nil]; exact h6, fun _ _ _ _ _ _ _ => rfl⟩
    show g326_220b (g326_220 f fu) f _ _ _ _ _ = _
    unfold g326_220b
    rw [h5.1.1, if_pos (by omega)]
    rfl
  | succ d ih =>
    intro p fu x G ps h1 h2 h3 h4 h5 h6 h7 h8
    obtain ⟨fu, rfl⟩ : ∃ t, fu = t + 1 := ⟨fu - 1, by omega⟩
    have hp : p < s.1.length := by omega
    have ep : xwr ((p : Int) + 1) = ((p + 1 : Nat) : Int) := by rw [xwr_g _ (by omega) (by omega)]; omega
    have f1 := (h5.2.2.2.1 p (by omega)).1
    have e0 : g326_220 f (fu + 1) o b (x : Int) (p : Int) G = g326_220b (g326_220 f fu) f o b (x : Int) (p : Int) G := rfl
    have hd : dfB s B Z p (d + 1) = (if pIn s.2.1 (p : Int) = true then dfC (-1) (qNm s p) Z B ++ dfC 1 (qNm s p) B Z else []) ++ dfB s B Z (p + 1) d := rfl
    rw [hd] at h7 h8 ⊢
    by_cases ci : pIn s.2.1 (p : Int) = true
    · rw [if_pos ci] at h7 h8 ⊢
      rw [List.length_append] at h7 h8
      have hx : G (2 + 6) p = 1 := by rw [f1, ci]; rfl
      obtain ⟨G1, u1, u2, u3⟩ := l_328 (f := f) (o := o) (b := b) (p := p) (nm := qNm s p) (sh := 1) (ps := ps) (by omega) hh ho (.inr rfl) hb hbo hsB hsZ (by omega) h3 h4 (h5.1.2.2 p hp) h6 (fun _ => by omega)
      have u2' : rPe G1 o (ps ++ (dfC (-1) (qNm s p) Z B ++ dfC 1 (qNm s p) B Z)) := u2
      have ex : xwr ((x : Int) + ((dfC (-1) (qNm s p) Z B ++ dfC 1 (qNm s p) B Z).length : Int)) = ((x + (dfC (-1) (qNm s p) Z B ++ dfC 1 (qNm s p) B Z).length : Nat) : Int) := by rw [xwr_g _ (by omega) (by omega)]; omega
      have hxp : ps.length ≤ 400 := h6.2.1
      obtain ⟨G', v1, v2, v3⟩ := ih (p + 1) fu (x + (dfC (-1) (qNm s p) Z B ++ dfC 1 (qNm s p) B Z).length) G1 (ps ++ (dfC (-1) (qNm s p) Z B ++ dfC 1 (qNm s p) B Z)) (by omega) (by omega) (h3.q u3 (by omega)) (h4.q u3 (by omega)) (h5.ge (fun j => u3 _ _ (by omega) (by omega) (by omega) (by omega) (by omega)) (fun a j _ _ _ _ _ => u3 _ _ (by omega) (by omega) (by omega) (by omega) (by omega))) u2' (by rw [List.length_append]; omega) (by omega)
      refine ⟨G', ?_, by rw [← List.append_assoc]; exact v2, fun a j z1 z2 z3 z4 z5 => (v3 a j z1 z2 z3 z4 z5).trans (u3 a j z1 z2 z3 z4 z5)⟩
      rw [e0]
      unfold g326_220b g326_259
      rw [h5.1.1, if_neg (by omega), if_pos (by omega), Int.toNat_natCast, hx, if_neg (by decide), u1, Option.bind_some, ep]
      simp only [ex]
      rw [v1, List.length_append (as := dfC (-1) (qNm s p) Z B ++ dfC 1 (qNm s p) B Z)]
      rw [Nat.add_assoc]
    · rw [if_neg ci, List.nil_append] at h7 h8 ⊢
      have hx : G (2 + 6) p = 0 := by
        rw [f1]
        unfold b01
        rw [if_neg ci]
      obtain ⟨G', v1, v2, v3⟩ := ih (p + 1) fu x G ps (by omega) (by omega) h3 h4 h5 h6 h7 h8
      refine ⟨G', ?_, v2, v3⟩
      rw [e0]
      unfold g326_220b g326_259
      rw [h5.1.1, if_neg (by omega), if_pos (by omega), Int.toNat_natCast, hx, if_pos rfl, ep]
      exact v1
theorem dfB_len {B Z : List pFc} : ∀ (d p : Nat), (dfB s B Z p d).length ≤ d * (B.length + Z.length)
  | 0, p => Nat.zero_le _
  | d + 1, p => by
    have h1 := dfB_len (B := B) (Z := Z) d (p + 1)
    show ((if pIn s.2.1 (p : Int) = true then dfC (-1) (qNm s p) Z B ++ dfC 1 (qNm s p) B Z else []) ++ dfB s B Z (p + 1) d).length ≤ _
    rw [List.length_append, Nat.succ_mul]
    have h2 : (if pIn s.2.1 (p : Int) = true then dfC (-1) (qNm s p) Z B ++ dfC 1 (qNm s p) B Z else []).length ≤ B.length + Z.length := by
      split
      · rw [List.length_append]
        have := dfC_len (sg := -1) (nm := qNm s p) (F := Z) (F' := B)
        have := dfC_len (sg := 1) (nm := qNm s p) (F := B) (F' := Z)
        omega
      · exact Nat.zero_le _
    omega
theorem l_326_153 {B Z : List pFc} (hf : 7000 < f) (hh : h < 4) (ho : o = 123 + 29 * h) (hb : isFb (b + 1)) (hbo : b + 4 < o ∨ o + 28 < b + 1) (hsB : B.Pairwise fLt) (hsZ : Z.Pairwise fLt) (hok : qOk s) {ps : List pPe} : ∀ (d p fu x : Nat) (G : xG_), p + d = s.1.length → d < fu → rFa G (b + 1) B → rFa G 253 Z → rPr G 2 q c s → rPe G o ps → x + (dfB s B Z p d).length ≤ 60000 →
    ∃ G', g326_153 f fu o b (x : Int) (p : Int) G = (if ps.length + (x + (dfB s B Z p d).length) ≤ 400 then g326_220 f f o b 0 0 G' else some (-4, G')) ∧ rPe G' o ps ∧ xfq o G G' := by
  have hnp := hok.1.1
  intro d
  induction d with
  | zero =>
    intro p fu x G h1 h2 h3 h4 h5 h6 h8
    obtain ⟨fu, rfl⟩ : ∃ t, fu = t + 1 := ⟨fu - 1, by omega⟩
    have hl := h6.2.1
    have h8' : x ≤ 60000 := h8
    have ex : xwr ((ps.length : Int) + (x : Int)) = ((ps.length + x : Nat) : Int) := by rw [xwr_g _ (by omega) (by omega)]; omega
    refine ⟨G, ?_, h6, fun _ _ _ _ _ _ _ => rfl⟩
    show g326_153b (g326_153 f fu) f _ _ _ _ _ = (if ps.length + (x + 0) ≤ 400 then _ else _)
    unfold g326_153b
    rw [h5.1.1, if_pos (by omega), h6.1, ex]
    by_cases c : ps.length + x ≤ 400
    · rw [if_pos (by omega), if_pos (by omega)]
    · rw [if_neg (by omega), if_neg (by omega)]
  | succ d ih =>
    intro p fu x G h1 h2 h3 h4 h5 h6 h8
    obtain ⟨fu, rfl⟩ : ∃ t, fu = t + 1 := ⟨fu - 1, by omega⟩
    have hp : p < s.1.length := by omega
    have ep : xwr ((p : Int) + 1) = ((p + 1 : Nat) : Int) := by rw [xwr_g _ (by omega) (by omega)]; omega
    have f1 := (h5.2.2.2.1 p (by omega)).1
    have e0 : g326_153 f (fu + 1) o b (x : Int) (p : Int) G = g326_153b (g326_153 f fu) f o b (x : Int) (p : Int) G := rfl
    have hd : dfB s B Z p (d + 1) = (if pIn s.2.1 (p : Int) = true then dfC (-1) (qNm s p) Z B ++ dfC 1 (qNm s p) B Z else []) ++ dfB s B Z (p + 1) d := rfl
    rw [hd] at h8 ⊢
    by_cases ci : pIn s.2.1 (p : Int) = true
    · rw [if_pos ci] at h8 ⊢
      rw [List.length_append] at h8
      have hx : G (2 + 6) p = 1 := by rw [f1, ci]; rfl
      obtain ⟨G1, u1, u2, u3⟩ := l_328 (f := f) (o := o) (b := b) (p := p) (nm := qNm s p) (sh := 0) (ps := ps) (by omega) hh ho (.inl rfl) hb hbo hsB hsZ (by omega) h3 h4 (h5.1.2.2 p hp) h6 (fun z => absurd z (by decide))
      have u2' : rPe G1 o ps := by
        have : shP 0 (dfC (-1) (qNm s p) Z B ++ dfC 1 (qNm s p) B Z) = [] := rfl
        rw [this, List.append_nil] at u2
        exact u2
      have ex : xwr ((x : Int) + ((dfC (-1) (qNm s p) Z B ++ dfC 1 (qNm s p) B Z).length : Int)) = ((x + (dfC (-1) (qNm s p) Z B ++ dfC 1 (qNm s p) B Z).length : Nat) : Int) := by rw [xwr_g _ (by omega) (by omega)]; omega
      obtain ⟨G', v1, v2, v3⟩ := ih (p + 1) fu (x + (dfC (-1) (qNm s p) Z B ++ dfC 1 (qNm s p) B Z).length) G1 (by omega) (by omega) (h3.q u3 (by omega)) (h4.q u3 (by omega)) (h5.ge (fun j => u3 _ _ (by omega) (by omega) (by omega) (by omega) (by omega)) (fun a j _ _ _ _ _ => u3 _ _ (by omega) (by omega) (by omega) (by omega) (by omega))) u2' (by omega)
      refine ⟨G', ?_, v2, fun a j z1 z2 z3 z4 z5 => (v3 a j z1 z2 z3 z4 z5).trans (u3 a j z1 z2 z3 z4 z5)⟩
      rw [e0]
      unfold g326_153b g326_192
      rw [h5.1.1, if_neg (by omega), if_pos (by omega), Int.toNat_natCast, hx, if_neg (by decide), u1, Option.bind_some, ep]
      simp only [ex]
      rw [v1, List.length_append (as := dfC (-1) (qNm s p) Z B ++ dfC 1 (qNm s p) B Z), Nat.add_assoc x]
    · rw [if_neg ci, List.nil_append] at h8 ⊢
      have hx : G (2 + 6) p = 0 := by
        rw [f1]
        unfold b01
        rw [if_neg ci]
      obtain ⟨G', v1, v2, v3⟩ := ih (p + 1) fu x G (by omega) (by omega) h3 h4 h5 h6 h8
      refine ⟨G', ?_, v2, v3⟩
      rw [e0]
      unfold g326_153b g326_192
      rw [h5.1.1, if_neg (by omega), if_pos (by omega), Int.toNat_natCast, hx, if_pos rfl, ep]
      exact v1
/-- the first predicate with a KEY that meets, and the least such KEY -/
def isMp (s : pPg) (A B Z : List pFc) (p : Nat) (κ : List Int) : Prop := p < s.1.length ∧ pIn s.2.1 (p : Int) = true ∧ 0 < qKy s p ∧ isMt A B Z (qNm s p) (qKy s p) κ ∧ ∀ p', p' < p → pIn s.2.1 (p' : Int) = true → 0 < qKy s p' → ∀ κ', ¬ mtF A B Z (qNm s p') (qKy s p') κ'
theorem l_327_2 {G : xG_} {a : Nat} {A B Z : List pFc} (hf : 7000 < f) (ha : isFb (a + 1)) (hb : isFb (b + 1)) (hb2 : b + 1 < 243) (hok : qOk s) (hkl : ∀ p, p < s.1.length → pIn s.2.1 (p : Int) = true → qKy s p ≤ qN s p) (hA : rFa G (a + 1) A) (hB : rFa G (b + 1) B) (hZ : rFa G 253 Z) (hP : rPr G 2 q c s) (wA : ∀ p, p < s.1.length → pIn s.2.1 (p : Int) = true → 0 < qKy s p → wKf A (qNm s p) (qKy s p) (qN s p) ∧ wKf B (qNm s p) (qKy s p) (qN s p) ∧ wKf Z (qNm s p) (qKy s p) (qN s p)) : ∀ (d p fu : Nat), p + d = s.1.length → d < fu → (∀ p', p' < p → pIn s.2.1 (p' : Int) = true → 0 < qKy s p' → ∀ κ', ¬ mtF A B Z (qNm s p') (qKy s p') κ') →
    (g327_2 f fu a b (p : Int) G = some (0, G) ∧ ∀ p', p' < s.1.length → pIn s.2.1 (p' : Int) = true → 0 < qKy s p' → ∀ κ', ¬ mtF A B Z (qNm s p') (qKy s p') κ') ∨ ∃ x κ G', g327_2 f fu a b (p : Int) G = some (1, G') ∧ isMp s A B Z x κ ∧ rMt G' ((x : Int), κ) ∧ ∀ a j, ¬ (a = 0 ∧ (j = 82 ∨ j = 83)) → a ≠ 257 → G' a j = G a j := by
  have hnp := hok.1.1
  have hlB := hB.2.1
  have hlZ := hZ.2.1
  intro d
  induction d with
  | zero =>
    intro p fu h1 h2 h3
    obtain ⟨fu, rfl⟩ : ∃ t, fu = t + 1 := ⟨fu - 1, by omega⟩
    refine .inl ⟨?_, fun p' hp' => h3 p' (by omega)⟩
    show g327_2b (g327_2 f fu) f _ _ _ _ = _
    unfold g327_2b
    rw [hP.1.1, if_pos (by omega)]
  | succ d ih =>
    intro p fu h1 h2 h3
    obtain ⟨fu, rfl⟩ : ∃ t, fu = t + 1 := ⟨fu - 1, by omega⟩
    have hp : p < s.1.length := by omega
    have ep : xwr ((p : Int) + 1) = ((p + 1 : Nat) : Int) := by rw [xwr_g _ (by omega) (by omega)]; omega
    obtain ⟨f1, f2, f3, f4⟩ := hP.2.2.2.1 p (by omega)
    have e0 : g327_2 f (fu + 1) a b (p : Int) G = g327_2b (g327_2 f fu) f a b (p : Int) G := rfl
    have hk0 : 0 ≤ pKy s.2.1 (p : Int) := by
      unfold pKy
      cases hx : s.2.1.find? (fun x => decide (x.1 = (p : Int))) with
      | none => exact Int.le_refl 0
      | some x => exact (hok.1.2.2.1 x (List.mem_of_find?_eq_some hx)).2.2.2.2.1
    have hky : G (2 + 3) p = (qKy s p : Int) := by
      rw [f2]
      unfold qKy
      omega
    have skip : ¬ (pIn s.2.1 (p : Int) = true ∧ 0 < qKy s p) → g327_2 f (fu + 1) a b (p : Int) G = g327_2 f fu a b ((p + 1 : Nat) : Int) G → (g327_2 f (fu + 1) a b (p : Int) G = some (0, G) ∧ ∀ p', p' < s.1.length → pIn s.2.1 (p' : Int) = true → 0 < qKy s p' → ∀ κ', ¬ mtF A B Z (qNm s p') (qKy s p') κ') ∨ ∃ x κ G', g327_2 f (fu + 1) a b (p : Int) G = some (1, G') ∧ isMp s A B Z x κ ∧ rMt G' ((x : Int), κ) ∧ ∀ a j, ¬ (a = 0 ∧ (j = 82 ∨ j = 83)) → a ≠ 257 → G' a j = G a j := fun hc he => by
      rw [he]
      refine ih (p + 1) fu (by omega) (by omega) (fun p' hp' h4 h5 => ?_)
      by_cases cp : p' = p
      · rw [cp] at h4 h5; exact absurd ⟨h4, h5⟩ hc
      · exact h3 p' (by omega) h4 h5
    by_cases ci : pIn s.2.1 (p : Int) = true
    · have hx : G (2 + 6) p = 1 := by rw [f1, ci]; rfl
      by_cases ck : qKy s p = 0
      · refine skip (fun z => by omega) ?_
        rw [e0]
        unfold g327_2b g327_363
        rw [hP.1.1, if_neg (by omega), if_pos (by omega), Int.toNat_natCast, hx, if_neg (by decide), if_pos (by omega), hky, if_neg (fun z => z (by omega)), ep]
      · obtain ⟨w1, w2, w3⟩ := wA p hp ci (by omega)
        have hq4 : qN s p ≤ 4 := by have := (pNn_in hok.1 (p : Int)).2; unfold qN; omega
        have e1 : g327_2b (g327_2 f fu) f a b (p : Int) G = g327_46 (g327_2 f fu) f f a b (p : Int) ((0 : Nat) : Int) ((0 : Nat) : Int) G := by
          unfold g327_2b
          rw [hP.1.1, if_neg (by omega), if_pos (by omega), Int.toNat_natCast, hx, if_neg (by decide), if_pos (by omega), hky, if_pos (by omega)]
          rfl
        rw [e0, e1]
        rcases l_327_46 (f := f) (a := a) (b := b) (r2 := g327_2 f fu) (n := qN s p) hf ha hb hb2 hA hB hZ w1 w2 w3 (by omega) (hkl p hp ci) hq4 (by omega) (hP.1.2.2 p hp) hky (B.length + Z.length) 0 0 f (by omega) (Nat.zero_le _) (Nat.zero_le _) (by omega) (fun y hy => absurd hy (Nat.not_lt_zero y)) (fun y hy => absurd hy (Nat.not_lt_zero y)) with ⟨v1, v2⟩ | ⟨κ, G', v1, v2, v3, v4⟩
        · rw [v1]
          refine ih (p + 1) fu (by omega) (by omega) (fun p' hp' h4 h5 => ?_)
          by_cases cp : p' = p
          · rw [cp]; exact v2
          · exact h3 p' (by omega) h4 h5
        · exact .inr ⟨p, κ, G', v1, ⟨hp, ci, by omega, v2, h3⟩, v3, v4⟩
    · have hx : G (2 + 6) p = 0 := by
        rw [f1]
        unfold b01
        rw [if_neg ci]
      refine skip (fun z => ci z.1) ?_
      rw [e0]
      unfold g327_2b g327_363
      rw [hP.1.1, if_neg (by omega), if_pos (by omega), Int.toNat_natCast, hx, if_pos rfl, ep]
end
end
section
/-! merge() -/
/-- editions grow -/
def eMo (H : Nat → sMo) (n : Nat) : Prop := ∀ r, 0 < r → r ≤ n → ((H r).2.2.2.2 = true → (H (r - 1)).1 < (H r).1) ∧ ((H r).2.2.2.2 ≠ true → (H r).1 = (H (r - 1)).1)
theorem eMo_le {H : Nat → sMo} {n : Nat} (h : eMo H n) : ∀ (d r : Nat), r + d ≤ n → (H r).1 ≤ (H (r + d)).1
  | 0, _, _ => Nat.le_refl _
  | d + 1, r, hn => by
    have h1 := eMo_le h d r (by omega)
    have h2 := h (r + d + 1) (by omega) (by omega)
    rw [show r + d + 1 - 1 = r + d by omega] at h2
    rw [show r + (d + 1) = r + d + 1 by omega]
    by_cases c : (H (r + d + 1)).2.2.2.2 = true
    · have := h2.1 c; omega
    · have := h2.2 c; omega
/-- no edition was taken behind x -/
theorem eMo_no {H : Nat → sMo} {n x : Nat} (h : eMo H n) (hx : x ≤ n) : (∀ r, x < r → r ≤ n → (H r).2.2.2.2 ≠ true) ↔ (H n).1 = (H x).1 := by
  constructor
  · intro hno
    have go : ∀ d, x + d ≤ n → (H (x + d)).1 = (H x).1 := fun d => by
      induction d with
      | zero => intro _; rfl
      | succ d ih =>
        intro hd
        have h2 := (h (x + d + 1) (by omega) (by omega)).2 (hno (x + d + 1) (by omega) (by omega))
        rw [show x + d + 1 - 1 = x + d by omega] at h2
        rw [show x + (d + 1) = x + d + 1 by omega, h2]
        exact ih (by omega)
    have := go (n - x) (by omega)
    rw [show x + (n - x) = n by omega] at this
    exact this
  · intro e r r1 r2 c
    have h1 := (h r (by omega) r2).1 c
    have h2 := eMo_le h (r - 1 - x) x (by omega)
    rw [show x + (r - 1 - x) = r - 1 by omega] at h2
    have h3 := eMo_le h (n - r) r (by omega)
    rw [show r + (n - r) = n by omega] at h3
    omega
theorem hEg_mem {H : Nat → sMo} {b : Nat} {a : pEg} : ∀ k, a ∈ hCat (hEg H) b k ↔ ∃ r, b < r ∧ r ≤ b + k ∧ (H r).2.2.2.2 = true ∧ a = ((r : Int), ((H (r - 1)).1 : Int))
  | 0 => ⟨fun h => (by cases h), fun ⟨r, r1, r2, _⟩ => by omega⟩
  | k + 1 => by
    show a ∈ hCat (hEg H) b k ++ hEg H (b + k + 1) ↔ _
    rw [List.mem_append, hEg_mem k]
    constructor
    · rintro (⟨r, r1, r2, r3⟩ | h)
      · exact ⟨r, r1, by omega, r3⟩
      · unfold hEg at h
        by_cases c : (H (b + k + 1)).2.2.2.2 = true
        · rw [if_pos c] at h
          exact ⟨b + k + 1, by omega, by omega, c, List.mem_singleton.mp h⟩
        · rw [if_neg c] at h; cases h
    · rintro ⟨r, r1, r2, r3, r4⟩
      by_cases c : r = b + k + 1
      · refine .inr ?_
        unfold hEg
        rw [c] at r3 r4
        rw [if_pos r3, r4]
        exact List.mem_singleton.mpr rfl
      · exact .inl ⟨r, r1, by omega, r3, r4⟩
theorem hEg_no {H : Nat → sMo} {b k x : Nat} : (lgK (x : Int) (hCat (hEg H) b k)).length = 0 ↔ ∀ r, b < r → r ≤ b + k → x < r → (H r).2.2.2.2 ≠ true := by
  rw [List.length_eq_zero_iff]
  constructor
  · intro h r r1 r2 r3 c
    have : (((r : Int), ((H (r - 1)).1 : Int)) : pEg) ∈ lgK (x : Int) (hCat (hEg H) b k) := lgK_mem.mpr ⟨(hEg_mem k).mpr ⟨r, r1, r2, c, rfl⟩, by show (x : Int) < (r : Int); omega⟩
    rw [h] at this
    cases this
  · intro h
    refine List.eq_nil_iff_forall_not_mem.mpr (fun a ha => ?_)
    obtain ⟨h1, h2⟩ := lgK_mem.mp ha
    obtain ⟨r, r1, r2, r3, r4⟩ := (hEg_mem k).mp h1
    rw [r4] at h2
    exact h r r1 r2 (by have : (x : Int) < (r : Int) := h2; omega) r3
/-- what holds of a line, beyond its own state -/
def lInv (T : List (List Int)) (ln : sLn) : Prop := (∀ r, ln.2.1.1 ≤ r → r ≤ ln.2.1.1 + ln.2.1.2.1 → ∃ s M, isMo T (ln.1 r) s M ∧ ukM s M) ∧ eMo ln.1 (ln.2.1.1 + ln.2.1.2.1) ∧ (ln.2.2.2.1.2.1 = -1 ∨ ((lMo ln).1 : Int) < ln.2.2.2.1.2.1)
def fInv (lns : Nat → sLn) : Prop := ∀ y, y < 4 → (lns y).2.2.2.2.1 = -1 ∨ ∃ x r : Nat, x < 4 ∧ x ≠ y ∧ (lns y).2.2.2.2 = ((x : Int), (r : Int)) ∧ r ≤ (lns x).2.1.1 + (lns x).2.1.2.1 ∧ r ≤ (lns y).2.1.1 + (lns y).2.1.2.1 ∧ ((lns y).1 r).1 = ((lns x).1 r).1
def hInv (T : List (List Int)) (lns : Nat → sLn) : Prop := (∀ y, y < 4 → lInv T (lns y)) ∧ fInv lns
def lnP (ln : sLn) (ps : List pPe) : sLn := (ln.1, ln.2.1, ln.2.2.1, (ps, ln.2.2.2.1.2), ln.2.2.2.2)
theorem rLn.pe {G G' : xG_} {o : Nat} {T : List (List Int)} {ln : sLn} {s : pPg} {M : Nat → List pRw} {ps : List pPe} (h : rLn G o T ln s M) (hx : ∀ a j, o ≤ a → a ≤ o + 28 → ¬ (a = o ∧ j = 33) → a ≠ o + 24 → a ≠ o + 25 → a ≠ o + 27 → a ≠ o + 28 → G' a j = G a j) (hp : rPe G' o ps) : rLn G' o T (lnP ln ps) s M := by
  obtain ⟨r1, ⟨r2, r3, r4, r5⟩, r6, r7, r8, r9, r10, ⟨E, r11, r12⟩, r18, ⟨r13, r14, r15⟩, r16, r17⟩ := h
  have zz : ∀ a j, o ≤ a → a ≤ o + 28 → ¬ (a = o ∧ j = 33) → a ≠ o + 24 → a ≠ o + 25 → a ≠ o + 27 → a ≠ o + 28 → G' a j = G a j := hx
  exact ⟨⟨r1.1.ge (zz _ _ (by omega) (by omega) (by omega) (by omega) (by omega) (by omega) (by omega)) (fun a j _ _ => zz _ _ (by omega) (by omega) (by omega) (by omega) (by omega) (by omega) (by omega)), r1.2.1.ge (zz _ _ (by omega) (by omega) (by omega) (by omega) (by omega) (by omega) (by omega)) (fun a j _ _ => zz _ _ (by omega) (by omega) (by omega) (by omega) (by omega) (by omega) (by omega)), r1.2.2.1.ge (zz _ _ (by omega) (by omega) (by omega) (by omega) (by omega) (by omega) (by omega)) (fun a j _ _ => zz _ _ (by omega) (by omega) (by omega) (by omega) (by omega) (by omega) (by omega)), r1.2.2.2⟩, ⟨by rw [zz _ _ (by omega) (by omega) (by omega) (by omega) (by omega) (by omega) (by omega)]; exact r2, by rw [zz _ _ (by omega) (by omega) (by omega) (by omega) (by omega) (by omega) (by omega)]; exact r3, by rw [zz _ _ (by omega) (by omega) (by omega) (by omega) (by omega) (by omega) (by omega)]; exact r4, by rw [zz _ _ (by omega) (by omega) (by omega) (by omega) (by omega) (by omega) (by omega)]; exact r5⟩, r6.ge (zz _ _ (by omega) (by omega) (by omega) (by omega) (by omega) (by omega) (by omega)) (fun a j _ _ => zz _ _ (by omega) (by omega) (by omega) (by omega) (by omega) (by omega) (by omega)), fun c hc => by rw [zz _ _ (by omega) (by omega) (by omega) (by omega) (by omega) (by omega) (by omega)]; exact r7 c hc, fun c hc => by rw [zz _ _ (by omega) (by omega) (by omega) (by omega) (by omega) (by omega) (by omega), zz _ _ (by omega) (by omega) (by omega) (by omega) (by omega) (by omega) (by omega)]; exact r8 c hc, fun p hp => by rw [zz _ _ (by omega) (by omega) (by omega) (by omega) (by omega) (by omega) (by omega)]; exact r9 p hp, fun c hc => by rw [zz _ _ (by omega) (by omega) (by omega) (by omega) (by omega) (by omega) (by omega)]; exact r10 c hc, ⟨E, r11.ge (zz _ _ (by omega) (by omega) (by omega) (by omega) (by omega) (by omega) (by omega)) (fun a j _ _ => zz _ _ (by omega) (by omega) (by omega) (by omega) (by omega) (by omega) (by omega)), r12⟩, r18.ge (fun j => zz _ _ (by omega) (by omega) (by omega) (by omega) (by omega) (by omega) (by omega)), ⟨hp, by rw [zz _ _ (by omega) (by omega) (by omega) (by omega) (by omega) (by omega) (by omega)]; exact r14, fun c hc => by rw [zz _ _ (by omega) (by omega) (by omega) (by omega) (by omega) (by omega) (by omega)]; exact r15 c hc⟩, by rw [zz _ _ (by omega) (by omega) (by omega) (by omega) (by omega) (by omega) (by omega)]; exact r16, by rw [zz _ _ (by omega) (by omega) (by omega) (by omega) (by omega) (by omega) (by omega)]; exact r17⟩
theorem sOk.pe {T : List (List Int)} {ln : sLn} {n : Nat} {ps : List pPe} (h : sOk T ln n) (hp : ∀ e ∈ ps, ∀ x ∈ e.2.2, vOk x) : sOk T (lnP ln ps) n := by
  obtain ⟨a1, a2, a3, a4, a5, a6, a7, a8, a9⟩ := h
  exact ⟨a1, a2, a3, a4, a5, a6, a7, hp, a9⟩
theorem dfA_v {s : pPg} {B Z : List pFc} (hB : ∀ y ∈ B, ∀ x ∈ y.2, vOk x) (hZ : ∀ y ∈ Z, ∀ x ∈ y.2, vOk x) : ∀ p, ∀ e ∈ dfA s B Z p, ∀ x ∈ e.2.2, vOk x
  | 0, e, he => by cases he
  | p + 1, e, he => by
    rcases List.mem_append.mp he with q | q
    · exact dfA_v hB hZ p e q
    · split at q
      · have go : ∀ {sg : Int} {F F' : List pFc}, (∀ y ∈ F, ∀ x ∈ y.2, vOk x) → e ∈ dfC sg (qNm s p) F F' → ∀ x ∈ e.2.2, vOk x := fun {sg F F'} hF hm => by
          unfold dfC at hm
          obtain ⟨y, y1, y2⟩ := List.mem_map.mp hm
          rw [← y2]
          exact hF y (List.mem_filter.mp y1).1
        rcases List.mem_append.mp q with q | q
        · exact go hZ q
        · exact go hB q
      · cases q
/-- merge() -/
def mgOk (lns : Nat → sLn) (hr : Nat) (k : Int) : Prop := 0 ≤ k ∧ k < 4 ∧ k ≠ (hr : Int) ∧ (lns k.toNat).2.2.2.2.1 = (hr : Int) ∧ ((lns hr).2.1.1 : Int) ≤ (lns k.toNat).2.2.2.2.2 ∧ (lns k.toNat).2.2.2.2.2 ≤ (((lns hr).2.1.1 + (lns hr).2.1.2.1 : Nat) : Int)
/-- three moments of one edition; KEYS stand once -/
def mgSm (s : pPg) (A B Z : sMo) : Prop := (A.1 = Z.1 ∧ B.1 = Z.1) ∧ ∀ p, p < s.1.length → pIn s.2.1 (p : Int) = true → 0 < qKy s p → wKf A.2.1 (qNm s p) (qKy s p) (qN s p) ∧ wKf B.2.1 (qNm s p) (qKy s p) (qN s p) ∧ wKf Z.2.1 (qNm s p) (qKy s p) (qN s p)
def stMg (T : List (List Int)) (lns : Nat → sLn) (hr : Nat) (k : Int) (mt : Int × List Int) (v : Int) (mt' : Int × List Int) (lns' : Nat → sLn) : Prop :=
  (¬ mgOk lns hr k ∧ v = -1 ∧ mt' = mt ∧ lns' = lns) ∨
  (mgOk lns hr k ∧ ¬ ((lMo (lns hr)).1 = ((lns hr).1 (lns k.toNat).2.2.2.2.2.toNat).1 ∧ (lMo (lns k.toNat)).1 = ((lns hr).1 (lns k.toNat).2.2.2.2.2.toNat).1) ∧ v = -2 ∧ mt' = mt ∧ lns' = lns) ∨
  (mgOk lns hr k ∧ ∃ s Ma Mb Mz, isMo T (lMo (lns hr)) s Ma ∧ isMo T (lMo (lns k.toNat)) s Mb ∧ isMo T ((lns hr).1 (lns k.toNat).2.2.2.2.2.toNat) s Mz ∧ mgSm s (lMo (lns hr)) (lMo (lns k.toNat)) ((lns hr).1 (lns k.toNat).2.2.2.2.2.toNat) ∧
    ((∃ (p : Nat) (κ : List Int), isMp s (lMo (lns hr)).2.1 (lMo (lns k.toNat)).2.1 ((lns hr).1 (lns k.toNat).2.2.2.2.2.toNat).2.1 p κ ∧ v = -3 ∧ mt' = ((p : Int), κ) ∧ lns' = lns) ∨
     ((∀ p, p < s.1.length → pIn s.2.1 (p : Int) = true → 0 < qKy s p → ∀ κ, ¬ mtF (lMo (lns hr)).2.1 (lMo (lns k.toNat)).2.1 ((lns hr).1 (lns k.toNat).2.2.2.2.2.toNat).2.1 (qNm s p) (qKy s p) κ) ∧ mt' = mt ∧
       ((400 < (lns hr).2.2.2.1.1.length + (dfA s (lMo (lns k.toNat)).2.1 ((lns hr).1 (lns k.toNat).2.2.2.2.2.toNat).2.1 s.1.length).length ∧ v = -4 ∧ lns' = lns) ∨
        ((lns hr).2.2.2.1.1.length + (dfA s (lMo (lns k.toNat)).2.1 ((lns hr).1 (lns k.toNat).2.2.2.2.2.toNat).2.1 s.1.length).length ≤ 400 ∧ v = ((dfA s (lMo (lns k.toNat)).2.1 ((lns hr).1 (lns k.toNat).2.2.2.2.2.toNat).2.1 s.1.length).length : Int) ∧ lns' = fun y => if y = hr then lnP (lns y) ((lns hr).2.2.2.1.1 ++ dfA s (lMo (lns k.toNat)).2.1 ((lns hr).1 (lns k.toNat).2.2.2.2.2.toNat).2.1 s.1.length) else lns y)))))
end
section
/-! merge(), whole -/
section
variable {f m n hr : Nat} {T : List (List Int)} {lns : Nat → sLn}
def xfMg (G G' : xG_) : Prop := ∀ a j, ¬ (a = 0 ∧ (j ≤ 11 ∨ 21 ≤ j ∧ j ≤ 27 ∨ 37 ≤ j ∧ j ≤ 66 ∨ j = 74 ∨ 82 ≤ j ∧ j ≤ 83 ∨ 89 ≤ j ∧ j ≤ 91)) → ¬ (1 ≤ a ∧ a ≤ 71) → ¬ (107 ≤ a ∧ a ≤ 238) → ¬ (243 ≤ a ∧ a ≤ 270) → G' a j = G a j
theorem rMt.ge {G G' : xG_} {mt : Int × List Int} (h : rMt G mt) (h0 : ∀ j, j = 82 ∨ j = 83 → G' 0 j = G 0 j) (h1 : ∀ j, G' 257 j = G 257 j) : rMt G' mt := ⟨by rw [h0 _ (by omega)]; exact h.1, by rw [h0 _ (by omega)]; exact h.2.1, h.2.2.1, fun j hj => by rw [h1]; exact h.2.2.2 j hj⟩
theorem l_326 {G : xG_} {k : Int} {mt : Int × List Int} (hf : 1000100 < f) (hn : n < 900) (h : rHb G T m lns hr n) (hI : hInv T lns) (hmt : rMt G mt) :
    ∃ v G' mt' lns', g326 f k G = some (v, G') ∧ stMg T lns hr k mt v mt' lns' ∧ rHb G' T m lns' hr n ∧ rMt G' mt' ∧ G' 0 74 = 0 ∧ G' 0 63 = G 0 63 ∧ xfMg G G' := by
  have h0 := h.u74 (v := 0)
  have hh := h
  obtain ⟨a1, a2, a3, a4, a5, a6, a7, a8, a9⟩ := h
  obtain ⟨s0, M0, b1, b2, b3⟩ := a5 hr a4
  let G1 := xup2 G 0 74 0
  have z1 : ∀ a j, ¬ (a = 0 ∧ j = 74) → G1 a j = G a j := fun a j q => xup2_n (by omega)
  have hmt1 : rMt G1 mt := hmt.ge (fun j _ => z1 _ _ (by omega)) (fun j => z1 _ _ (by omega))
  -- answers that leave all as it was
  have same : ∀ v : Int, g326 f k G = some (v, G1) → stMg T lns hr k mt v mt lns → ∃ v G' mt' lns', g326 f k G = some (v, G') ∧ stMg T lns hr k mt v mt' lns' ∧ rHb G' T m lns' hr n ∧ rMt G' mt' ∧ G' 0 74 = 0 ∧ G' 0 63 = G 0 63 ∧ xfMg G G' := fun v e1 e2 => ⟨v, G1, mt, lns, e1, e2, h0, hmt1, xup2_s _ _ _ _, z1 _ _ (by omega), fun a j q1 q2 q3 q4 => z1 _ _ (by omega)⟩
  by_cases c1 : k < 0
  · refine same (-1) ?_ (.inl ⟨fun q => absurd q.1 (by omega), rfl, rfl, rfl⟩)
    unfold g326 g326_22
    rw [Option.bind_some, if_pos c1]
  by_cases c2 : 4 ≤ k
  · refine same (-1) ?_ (.inl ⟨fun q => absurd q.2.1 (by omega), rfl, rfl, rfl⟩)
    unfold g326 g326_22
    rw [Option.bind_some, if_neg c1, if_pos c2]
  by_cases c3 : k = (hr : Int)
  · refine same (-1) ?_ (.inl ⟨fun q => q.2.2.1 c3, rfl, rfl, rfl⟩)
    unfold g326 g326_22
    rw [Option.bind_some, if_neg c1, if_neg c2, xup2_n (by omega), a3, if_neg (fun q => q c3)]
  obtain ⟨x, rfl⟩ : ∃ x : Nat, k = (x : Int) := ⟨k.toNat, by omega⟩
  have hx : x < 4 := by omega
  have hxr : x ≠ hr := fun q => c3 (by rw [q])
  obtain ⟨sx, Mx, x1, x2, x3⟩ := a5 x hx
  have f35 : G1 (123 + 29 * x) 35 = (lns x).2.2.2.2.1 := by rw [z1 _ _ (by omega)]; exact x2.2.2.2.2.2.2.2.2.2.2.1
  have f36 : G1 (123 + 29 * x) 36 = (lns x).2.2.2.2.2 := by rw [z1 _ _ (by omega)]; exact x2.2.2.2.2.2.2.2.2.2.2.2
  have e0 : g326 f (x : Int) G = (if ¬ (lns x).2.2.2.2.1 = (hr : Int) then g326_64 f G1 else ((g310 f (123 + 29 * hr) ((lns x).2.2.2.2.2) G1).bind fun R128 => (if ¬ (R128.1) = 0 then (if ¬ (R128.2 (123 + 29 * hr) 1) = (R128.2 (123 + 29 * x) 1) then g326_115 f R128.2 else ((g309 f (123 + 29 * hr + 13) (R128.2 (123 + 29 * hr) 17) (R128.2 (123 + 29 * x) 36) R128.2).bind fun R135 => (if 0 < (R135.1) then g326_115 f R135.2 else ((g309 f (123 + 29 * x + 13) (R135.2 (123 + 29 * x) 17) (R128.2 (123 + 29 * x) 36) R135.2).bind fun R141 => (if (R141.1) ≤ 0 then ((g296 f R141.2).bind fun R147 => ((g311 f (123 + 29 * hr) (R128.2 (123 + 29 * x) 36) (253) R147).bind fun R152 => ((g327 f (123 + 29 * hr) (123 + 29 * x) R152.2).bind fun R157 => (if (R157.1) = 0 then g326_153 f f (123 + 29 * hr) (123 + 29 * x) (0) (0) R157.2 else (some (-3, R157.2)))))) else g326_115 f R141.2))))) else g326_64 f R128.2))) := by
    unfold g326
    rw [Option.bind_some, if_neg c1, if_neg c2, show xup2 G 0 74 0 = G1 from rfl, z1 0 62 (by omega), a3, if_pos c3, if_pos (by omega), if_pos (by omega), Int.toNat_natCast, Int.toNat_natCast, f35, f36]
  have nok : ¬ mgOk lns hr (x : Int) → g326 f (x : Int) G = some (-1, G1) → ∃ v G' mt' lns', g326 f (x : Int) G = some (v, G') ∧ stMg T lns hr (x : Int) mt v mt' lns' ∧ rHb G' T m lns' hr n ∧ rMt G' mt' ∧ G' 0 74 = 0 ∧ G' 0 63 = G 0 63 ∧ xfMg G G' := fun q e => same (-1) e (.inl ⟨q, rfl, rfl, rfl⟩)
  by_cases c4 : ¬ ((lns x).2.2.2.2.1 = (hr : Int))
  · refine nok (fun q => c4 ?_) (by rw [e0, if_pos c4]; rfl)
    have := q.2.2.2.1
    rw [Int.toNat_natCast] at this
    exact this
  replace c4 : (lns x).2.2.2.2.1 = (hr : Int) := Classical.not_not.mp c4
  rw [if_neg (fun q => q c4), l_310 (f := f) (o := 123 + 29 * hr) (b := (lns hr).2.1.1) (k := (lns hr).2.1.2.1) (by rw [z1 _ _ (by omega)]; exact b2.2.1.2.2.1) (by rw [z1 _ _ (by omega)]; exact b2.2.1.2.1), Option.bind_some] at e0
  by_cases c5 : ¬ (((lns hr).2.1.1 : Int) ≤ (lns x).2.2.2.2.2 ∧ (lns x).2.2.2.2.2 ≤ (((lns hr).2.1.1 + (lns hr).2.1.2.1 : Nat) : Int))
  · have n1 : ¬ ¬ ((if ((lns hr).2.1.1 : Int) ≤ (lns x).2.2.2.2.2 ∧ (lns x).2.2.2.2.2 ≤ (((lns hr).2.1.1 + (lns hr).2.1.2.1 : Nat) : Int) then (1 : Int) else 0, G1) : Int × xG_).1 = 0 := by
      rw [if_neg c5]; exact fun q => q rfl
    refine nok (fun q => c5 ?_) (by rw [e0, if_neg n1]; rfl)
    have := q.2.2.2.2
    rw [Int.toNat_natCast] at this
    exact this
  replace c5 : ((lns hr).2.1.1 : Int) ≤ (lns x).2.2.2.2.2 ∧ (lns x).2.2.2.2.2 ≤ (((lns hr).2.1.1 + (lns hr).2.1.2.1 : Nat) : Int) := Classical.not_not.mp c5
  have n1 : ¬ ((if ((lns hr).2.1.1 : Int) ≤ (lns x).2.2.2.2.2 ∧ (lns x).2.2.2.2.2 ≤ (((lns hr).2.1.1 + (lns hr).2.1.2.1 : Nat) : Int) then (1 : Int) else 0, G1) : Int × xG_).1 = 0 := by
    rw [if_pos c5]; show ¬ (1 : Int) = 0; decide
  rw [if_pos n1] at e0
  simp only [] at e0
  have hmok : mgOk lns hr (x : Int) := ⟨by omega, by omega, c3, by rw [Int.toNat_natCast]; exact c4, by rw [Int.toNat_natCast]; exact c5⟩
  -- the fork
  obtain ⟨r, hr1, hr2, hr3, hr4⟩ : ∃ r : Nat, (lns x).2.2.2.2.2 = (r : Int) ∧ r ≤ (lns hr).2.1.1 + (lns hr).2.1.2.1 ∧ r ≤ (lns x).2.1.1 + (lns x).2.1.2.1 ∧ ((lns x).1 r).1 = ((lns hr).1 r).1 := by
    rcases hI.2 x hx with q | ⟨y, r, y1, y2, y3, y4, y5, y6⟩
    · rw [c4] at q; omega
    · have e1 : (lns x).2.2.2.2.1 = (y : Int) := by rw [y3]
      have e2 : (lns x).2.2.2.2.2 = (r : Int) := by rw [y3]
      have : y = hr := by omega
      subst this
      exact ⟨r, e2, y4, y5, y6⟩
  obtain ⟨i, hi⟩ : ∃ i, r = (lns hr).2.1.1 + i := ⟨r - (lns hr).2.1.1, by omega⟩
  obtain ⟨k', hk'⟩ : ∃ k', (lns hr).2.1.2.1 = i + k' := ⟨(lns hr).2.1.2.1 - i, by omega⟩
  obtain ⟨ia1, ia2, ia3⟩ := hI.1 hr a4
  obtain ⟨ib1, ib2, ib3⟩ := hI.1 x hx
  have edA := eMo_no ia2 hr2
  have edB := eMo_no ib2 hr3
  have hA13 := bh13 (f := f) (h := hr) (o := 123 + 29 * hr) (x := (r : Int)) (G := G1) (E := hCat (hEg (lns hr).1) (lns hr).2.1.1 (lns hr).2.1.2.1) (by omega) a4 rfl (b2.1.2.2.1.ge (z1 _ _ (by omega)) (fun a j _ _ => z1 _ _ (by omega))) b2.1.2.2.2.2.2
  have hB13 := bh13 (f := f) (h := x) (o := 123 + 29 * x) (x := (r : Int)) (G := G1) (E := hCat (hEg (lns x).1) (lns x).2.1.1 (lns x).2.1.2.1) (by omega) hx rfl (x2.1.2.2.1.ge (z1 _ _ (by omega)) (fun a j _ _ => z1 _ _ (by omega))) x2.1.2.2.2.2.2
  have noA : (lgK (r : Int) (hCat (hEg (lns hr).1) (lns hr).2.1.1 (lns hr).2.1.2.1)).length = 0 ↔ (lMo (lns hr)).1 = ((lns hr).1 r).1 := by
    rw [hEg_no]
    refine Iff.trans ⟨fun q r' r1 r2 => q r' (by omega) r2 r1, fun q r' r1 r2 r3 => q r' r3 r2⟩ edA
  rw [z1 (123 + 29 * hr) 1 (by omega), z1 (123 + 29 * x) 1 (by omega), b2.2.1.1, x2.2.1.1, f36, hr1, hA13, Option.bind_some] at e0
  have ne2 : ¬ ((lMo (lns hr)).1 = ((lns hr).1 r).1 ∧ (lMo (lns x)).1 = ((lns hr).1 r).1) → g326 f (x : Int) G = some (-2, G1) → ∃ v G' mt' lns', g326 f (x : Int) G = some (v, G') ∧ stMg T lns hr (x : Int) mt v mt' lns' ∧ rHb G' T m lns' hr n ∧ rMt G' mt' ∧ G' 0 74 = 0 ∧ G' 0 63 = G 0 63 ∧ xfMg G G' := fun q e => same (-2) e (.inr (.inl ⟨hmok, by rw [Int.toNat_natCast, hr1, Int.toNat_natCast]; exact q, rfl, rfl, rfl⟩))
  by_cases c6 : ¬ (((lMo (lns hr)).1 : Int) = ((lMo (lns x)).1 : Int))
  · refine ne2 (fun q => c6 (by rw [q.1, q.2])) ?_
    rw [e0, if_pos c6]
    rfl
  replace c6 : ((lMo (lns hr)).1 : Int) = ((lMo (lns x)).1 : Int) := Classical.not_not.mp c6
  rw [if_neg (fun q => q c6)] at e0
  by_cases c7 : 0 < ((lgK (r : Int) (hCat (hEg (lns hr).1) (lns hr).2.1.1 (lns hr).2.1.2.1)).length : Int)
  · refine ne2 (fun q => ?_) (by rw [e0, if_pos c7]; rfl)
    have := noA.mpr q.1
    omega
  rw [if_neg c7, hB13, Option.bind_some] at e0
  have eA : (lMo (lns hr)).1 = ((lns hr).1 r).1 := noA.mp (by omega)
  have eB : (lMo (lns x)).1 = ((lns hr).1 r).1 := by omega
  have noB : (lgK (r : Int) (hCat (hEg (lns x).1) (lns x).2.1.1 (lns x).2.1.2.1)).length = 0 := by
    rw [hEg_no]
    have : (lMo (lns x)).1 = ((lns x).1 r).1 := by rw [eB, hr4]
    intro r' r1 r2 r3
    exact edB.mpr this r' r3 r2
  rw [if_pos (by omega)] at e0
  simp only [] at e0
  -- load
  obtain ⟨G2, q, c, s, Ma, k1, k2, k3, k4, k5, k6, k7⟩ := l_ld0 hf hh
  have k1' : g296 f G1 = some G2 := k1
  rw [k1', Option.bind_some] at e0
  have hok := k2.2.2.1
  have hnp := hok.1.1
  obtain ⟨sa, Ma', aa1, aa2, aa3⟩ := k4.l1
  obtain ⟨ea1, ea2⟩ := isMo_u k2 aa1
  subst ea1
  obtain ⟨sb, Mb', bb1, bb2, bb3⟩ := k4.2.2.2.2.1 x hx
  -- the three moments have one program
  obtain ⟨s1, Ma1, u1, u2⟩ := ia1 ((lns hr).2.1.1 + (lns hr).2.1.2.1) (by omega) (Nat.le_refl _)
  obtain ⟨s2, Mb, v1, v2⟩ := ib1 ((lns x).2.1.1 + (lns x).2.1.2.1) (by omega) (Nat.le_refl _)
  obtain ⟨s3, Mz, w1, w2⟩ := ia1 r (by omega) hr2
  have es1 : s1 = s := by
    have e1 := u1.2.1
    have e2 := k2.2.1
    rw [e2] at e1
    exact (Sum.inr.inj e1).symm
  have es2 : s2 = s := by
    have e1 : qPr (T.getD (lMo (lns x)).1 []) = .inr s2 := v1.2.1
    have e2 := k2.2.1
    rw [eB, ← eA, e2] at e1
    exact (Sum.inr.inj e1).symm
  have es3 : s3 = s := by
    have e1 : qPr (T.getD ((lns hr).1 r).1 []) = .inr s3 := w1.2.1
    have e2 := k2.2.1
    rw [← eA, e2] at e1
    exact (Sum.inr.inj e1).symm
  subst es1
  subst es2
  subst es3
  -- goBack
  have hst := aa3.2.1
  have hfc := aa3.fc
  have r1 := aa2.1
  have r2 := aa2.2.1.1
  have r6 := aa2.2.2.1
  rw [hk'] at hst hfc r1 r2 r6
  obtain ⟨G3, t1, t2, t3⟩ := l_311 (f := f) (o := 123 + 29 * hr) (h := hr) (G := G2) (H := (lns hr).1) (b := (lns hr).2.1.1) (i := i) (k := k') (by omega) a4 rfl r1 hst hfc r2 r6
  rw [← hi] at t1 t2
  rw [t1, Option.bind_some] at e0
  simp only [] at e0
  have z3 : ∀ a j, ¬ (253 ≤ a ∧ a ≤ 256) → G3 a j = G2 a j := fun a j q => t3 a j (by omega) (by omega) (by omega) (by omega)
  have hP3 : rPr G3 2 q c s3 := k3.1.ge (fun j => z3 _ _ (by omega)) (fun a j _ _ _ _ _ => z3 _ _ (by omega))
  have hA3 : rFa G3 (123 + 29 * hr + 1) (lMo (lns hr)).2.1 := aa2.2.2.1.ge (z3 _ _ (by omega)) (fun a j _ _ => z3 _ _ (by omega))
  have hB3 : rFa G3 (123 + 29 * x + 1) (lMo (lns x)).2.1 := bb2.2.2.1.ge (z3 _ _ (by omega)) (fun a j _ _ => z3 _ _ (by omega))
  have hps3 : rPe G3 (123 + 29 * hr) (lns hr).2.2.2.1.1 := (aa2.2.2.2.2.2.2.2.2.2.1.1).ge' (fun a j _ _ => z3 _ _ (by omega))
  have ifa : isFb (123 + 29 * hr + 1) := by unfold isFb; omega
  have ifb : isFb (123 + 29 * x + 1) := by unfold isFb; omega
  have hH3 : rHb G3 T m lns hr n := k4.ge (fun j _ => z3 _ _ (by omega)) (fun a j _ _ => z3 _ _ (by omega)) (fun a j _ _ => z3 _ _ (by omega)) (fun a j _ _ _ => z3 _ _ (by omega))
  have hmt3 : rMt G3 mt := hmt.ge (fun j q => by rw [z3 _ _ (by omega), k7 _ _ (by omega) (by omega) (by omega) (by omega) (by omega)]) (fun j => by rw [z3 _ _ (by omega), k7 _ _ (by omega) (by omega) (by omega) (by omega) (by omega)])
  have y74 : G3 0 74 = 0 := by rw [z3 _ _ (by omega)]; exact k5
  have y63 : G3 0 63 = G 0 63 := by rw [z3 _ _ (by omega)]; exact k6
  have yfr : xfMg G G3 := fun a j q1 q2 q3 q4 => by rw [z3 _ _ (by omega), k7 _ _ (by omega) q2 q3 (by omega) (by omega)]
  have hwk : ∀ p, p < s3.1.length → pIn s3.2.1 (p : Int) = true → 0 < qKy s3 p → wKf (lMo (lns hr)).2.1 (qNm s3 p) (qKy s3 p) (qN s3 p) ∧ wKf (lMo (lns x)).2.1 (qNm s3 p) (qKy s3 p) (qN s3 p) ∧ wKf ((lns hr).1 r).2.1 (qNm s3 p) (qKy s3 p) (qN s3 p) := fun p hp hi hk => ⟨wKf_of hok u1.2.2.2.2.1.1.1 u1.2.2.2.2.2.1 u2 hp hi hk, wKf_of hok v1.2.2.2.2.1.1.1 v1.2.2.2.2.2.1 v2 hp hi hk, wKf_of hok w1.2.2.2.2.1.1.1 w1.2.2.2.2.2.1 w2 hp hi hk⟩
  have hmeet := l_327_2 (f := f) (G := G3) (a := 123 + 29 * hr) (b := 123 + 29 * x) (A := (lMo (lns hr)).2.1) (B := (lMo (lns x)).2.1) (Z := ((lns hr).1 r).2.1) (by omega) ifa ifb (by omega) hok (fun p hp hi => Nat.le_of_lt (key_lt k2.2.1 hok hp hi)) hA3 hB3 t2 hP3 hwk s3.1.length 0 f (by omega) (by omega) (fun p hp => absurd hp (Nat.not_lt_zero p))
  have ern : (lns (x : Int).toNat).2.2.2.2.2.toNat = r := by rw [Int.toNat_natCast, hr1, Int.toNat_natCast]
  rcases hmeet with ⟨m1, m2⟩ | ⟨p, κ, G4, m1, m2, m3, m4⟩
  · have m1' : g327 f (123 + 29 * hr) (123 + 29 * x) G3 = some (0, G3) := m1
    rw [m1', Option.bind_some, if_pos rfl] at e0
    have lB : (lMo (lns x)).2.1.length ≤ 1600 := v1.2.2.2.2.2.1.len hnp v1.2.2.2.2.1.1.1
    have lZ : ((lns hr).1 r).2.1.length ≤ 1600 := w1.2.2.2.2.2.1.len hnp w1.2.2.2.2.1.1.1
    have hdA : dfB s3 (lMo (lns x)).2.1 ((lns hr).1 r).2.1 0 s3.1.length = dfA s3 (lMo (lns x)).2.1 ((lns hr).1 r).2.1 s3.1.length := by
      have := dfB_A (s := s3) (B := (lMo (lns x)).2.1) (Z := ((lns hr).1 r).2.1) s3.1.length 0
      rw [Nat.zero_add] at this
      exact this
    have hdl : (dfB s3 (lMo (lns x)).2.1 ((lns hr).1 r).2.1 0 s3.1.length).length ≤ 51200 := by
      have h1 := dfB_len (s := s3) (B := (lMo (lns x)).2.1) (Z := ((lns hr).1 r).2.1) s3.1.length 0
      have h2 : s3.1.length * ((lMo (lns x)).2.1.length + ((lns hr).1 r).2.1.length) ≤ 16 * 3200 := Nat.mul_le_mul hnp (by omega)
      omega
    obtain ⟨G4, d1, d2, d3⟩ := l_326_153 (f := f) (B := (lMo (lns x)).2.1) (Z := ((lns hr).1 r).2.1) (o := 123 + 29 * hr) (h := hr) (b := 123 + 29 * x) (q := q) (c := c) (s := s3) (ps := (lns hr).2.2.2.1.1) (by omega) a4 rfl ifb (by omega) v1.2.2.2.2.2.1.1 w1.2.2.2.2.2.1.1 hok s3.1.length 0 f 0 G3 (by omega) (by omega) hB3 t2 hP3 hps3 (by rw [Nat.zero_add]; exact Nat.le_trans hdl (by decide))
    rw [hdA, Nat.zero_add] at d1
    -- the house behind CHANGES
    have house : ∀ (G5 : xG_) (ps : List pPe), xfq (123 + 29 * hr) G3 G5 → rPe G5 (123 + 29 * hr) ps → (∀ e ∈ ps, ∀ y ∈ e.2.2, vOk y) → rHb G5 T m (fun y => if y = hr then lnP (lns y) ps else lns y) hr n ∧ rMt G5 mt ∧ G5 0 74 = 0 ∧ G5 0 63 = G 0 63 ∧ xfMg G G5 := fun G5 ps hq hp hv => by
      have zq : ∀ a j, a < 123 ∨ 238 < a → G5 a j = G3 a j := fun a j y => hq a j (by omega) (by omega) (by omega) (by omega) (by omega)
      obtain ⟨j1, j2, j3, j4, j5, j6, j7, j8, j9⟩ := hH3
      refine ⟨rHb.of ⟨j1.ge (fun j _ _ => zq _ _ (by omega)), j2.ge (zq _ _ (by omega)) (zq _ _ (by omega)) (fun a j _ => zq _ _ (by omega)), fun y hy => ?_⟩ (by rw [zq _ _ (by omega)]; exact j3) j4 (by rw [zq _ _ (by omega)]; exact j6) (by rw [zq _ _ (by omega)]; exact j7) (by rw [zq _ _ (by omega), zq _ _ (by omega)]; exact j8) ?_, hmt3.ge (fun j _ => zq _ _ (by omega)) (fun j => zq _ _ (by omega)), by rw [zq _ _ (by omega)]; exact y74, by rw [zq _ _ (by omega)]; exact y63, fun a j q1 q2 q3 q4 => by rw [zq _ _ (by omega)]; exact yfr a j q1 q2 q3 q4⟩
      · obtain ⟨s', M', l1, l2, l3⟩ := j5 y hy
        by_cases cy : y = hr
        · simp only [if_pos cy]
          rw [cy] at l1 l2 l3 ⊢
          exact ⟨s', M', l1, l2.pe (fun a j _ _ y1 y2 y3 y4 y5 => hq a j y1 y2 y3 y4 y5) hp, l3.pe hv⟩
        · simp only [if_neg cy]
          exact ⟨s', M', l1, l2.ge (fun a j _ _ => hq a j (by omega) (by omega) (by omega) (by omega) (by omega)), l3⟩
      · have hl := j9.ge (G' := G5) (fun j _ _ => zq _ _ (by omega)) (fun a j _ _ => zq _ _ (by omega)) (fun a j _ _ => zq _ _ (by omega))
        intro e1 y hy e2 s' M' hM
        refine hl e1 y hy e2 s' M' ?_
        by_cases cy : y = hr
        · simp only [if_pos cy] at hM
          exact hM
        · simp only [if_neg cy] at hM
          exact hM
    by_cases c8 : (lns hr).2.2.2.1.1.length + (dfA s3 (lMo (lns x)).2.1 ((lns hr).1 r).2.1 s3.1.length).length ≤ 400
    · rw [if_pos c8] at d1
      obtain ⟨G5, g1, g2, g3⟩ := l_326_220 (f := f) (B := (lMo (lns x)).2.1) (Z := ((lns hr).1 r).2.1) (o := 123 + 29 * hr) (h := hr) (b := 123 + 29 * x) (q := q) (c := c) (s := s3) (by omega) a4 rfl ifb (by omega) v1.2.2.2.2.2.1.1 w1.2.2.2.2.2.1.1 hok s3.1.length 0 f 0 G4 (lns hr).2.2.2.1.1 (by omega) (by omega) (hB3.q d3 (by omega)) (t2.q d3 (by omega)) (hP3.ge (fun j => d3 _ _ (by omega) (by omega) (by omega) (by omega) (by omega)) (fun a j _ _ _ _ _ => d3 _ _ (by omega) (by omega) (by omega) (by omega) (by omega))) d2 (by rw [hdA]; exact c8) (by rw [Nat.zero_add]; exact Nat.le_trans hdl (by decide))
      rw [hdA, Nat.zero_add] at g1
      rw [hdA] at g2
      obtain ⟨o1, o2, o3, o4, o5⟩ := house G5 _ (fun a j y1 y2 y3 y4 y5 => (g3 a j y1 y2 y3 y4 y5).trans (d3 a j y1 y2 y3 y4 y5)) g2 (fun e he => by
        rcases List.mem_append.mp he with q | q
        · exact aa3.2.2.2.2.2.2.2.1 e q
        · refine dfA_v (fun y hy => ?_) (fun y hy => ?_) s3.1.length e q
          · obtain ⟨p', p1, p2, w, p3, p4⟩ := (v1.2.2.2.2.2.1.2 y).mp hy
            rw [← p4]
            exact ((v1.2.2.2.2.1.1.1 p' p1).2.2 w p3).2
          · obtain ⟨p', p1, p2, w, p3, p4⟩ := (w1.2.2.2.2.2.1.2 y).mp hy
            rw [← p4]
            exact ((w1.2.2.2.2.1.1.1 p' p1).2.2 w p3).2)
      refine ⟨_, G5, mt, _, (e0.trans d1).trans g1, .inr (.inr ⟨hmok, s3, Ma1, Mb, Mz, u1, by rw [Int.toNat_natCast]; exact v1, by rw [ern]; exact w1, by rw [ern, Int.toNat_natCast]; exact ⟨⟨eA, eB⟩, hwk⟩, .inr ⟨by rw [ern, Int.toNat_natCast]; exact m2, rfl, .inr ⟨by rw [ern, Int.toNat_natCast]; exact c8, by rw [ern, Int.toNat_natCast], by rw [ern, Int.toNat_natCast]⟩⟩⟩), o1, o2, o3, o4, o5⟩
    · rw [if_neg c8] at d1
      obtain ⟨o1, o2, o3, o4, o5⟩ := house G4 (lns hr).2.2.2.1.1 d3 d2 aa3.2.2.2.2.2.2.2.1
      have el : (fun y => if y = hr then lnP (lns y) (lns hr).2.2.2.1.1 else lns y) = lns := by
        funext y
        by_cases cy : y = hr
        · rw [if_pos cy, cy]; rfl
        · rw [if_neg cy]
      rw [el] at o1
      exact ⟨-4, G4, mt, lns, e0.trans d1, .inr (.inr ⟨hmok, s3, Ma1, Mb, Mz, u1, by rw [Int.toNat_natCast]; exact v1, by rw [ern]; exact w1, by rw [ern, Int.toNat_natCast]; exact ⟨⟨eA, eB⟩, hwk⟩, .inr ⟨by rw [ern, Int.toNat_natCast]; exact m2, rfl, .inl ⟨by rw [ern, Int.toNat_natCast]; omega, rfl, rfl⟩⟩⟩), o1, o2, o3, o4, o5⟩
  · have m1' : g327 f (123 + 29 * hr) (123 + 29 * x) G3 = some (1, G4) := m1
    have n9 : ¬ ((1 : Int), G4).1 = 0 := fun q => absurd (show (1 : Int) = 0 from q) (by decide)
    rw [m1', Option.bind_some, if_neg n9] at e0
    refine ⟨-3, G4, ((p : Int), κ), lns, e0, .inr (.inr ⟨hmok, s3, Ma1, Mb, Mz, u1, by rw [Int.toNat_natCast]; exact v1, by rw [ern]; exact w1, by rw [ern, Int.toNat_natCast]; exact ⟨⟨eA, eB⟩, hwk⟩, .inl ⟨p, κ, by rw [ern, Int.toNat_natCast]; exact m2, rfl, rfl, rfl⟩⟩), hH3.ge (fun j _ => m4 _ _ (by omega) (by omega)) (fun a j _ _ => m4 _ _ (by omega) (by omega)) (fun a j _ _ => m4 _ _ (by omega) (by omega)) (fun a j _ _ _ => m4 _ _ (by omega) (by omega)), m3, by rw [m4 _ _ (by omega) (by omega)]; exact y74, by rw [m4 _ _ (by omega) (by omega)]; exact y63, fun a j q1 q2 q3 q4 => by rw [m4 _ _ (by omega) (by omega)]; exact yfr a j q1 q2 q3 q4⟩
end
end
section
/-! The answers of a QUERY -/
/-- the answers S so far, nv VARIABLES each -/
def rAn (G : xG_) (nv : Nat) (S : List (List Int)) : Prop := G 0 52 = (S.length : Int) ∧ S.length ≤ 500 ∧ ∀ i, i < S.length → (S.getD i []).length = nv ∧ ∀ k, k < nv → G 116 (8 * i + k) = (S.getD i []).getD k 0
def vLe (a b : List Int) : Prop := vCmp a b ≤ 0
theorem xl116 : ((xl_t 116).2.2 : Int) = 4008 := by decide +kernel
theorem xl110 : ((xl_t 110).2.2 : Int) = 8 := by decide +kernel
section
variable {f nv : Nat}
theorem l_285_62 {r31 : Int → xG_ → Option xG_} {i : Nat} (hi : i < 500) : ∀ (d k fu : Nat) (G : xG_), k + d = 8 → d < fu →
    ∃ G', g285_62 r31 f fu ((i + 1 : Nat) : Int) (k : Int) G = r31 (i : Int) G' ∧ (∀ z, k ≤ z → z < 8 → G' 116 (8 * (i + 1) + z) = G 116 (8 * i + z)) ∧ ∀ a j, ¬ (a = 116 ∧ 8 * (i + 1) + k ≤ j ∧ j < 8 * (i + 1) + 8) → G' a j = G a j := by
  intro d
  induction d with
  | zero =>
    intro k fu G h1 h2
    obtain ⟨fu, rfl⟩ : ∃ t, fu = t + 1 := ⟨fu - 1, by omega⟩
    have e : xwr (((i + 1 : Nat) : Int) + -1) = (i : Int) := by rw [xwr_g _ (by omega) (by omega)]; omega
    refine ⟨G, ?_, fun z z1 z2 => by omega, fun _ _ _ => rfl⟩
    show g285_62b r31 (g285_62 r31 f fu) f _ _ _ = _
    unfold g285_62b
    rw [if_pos (by omega), e]
  | succ d ih =>
    intro k fu G h1 h2
    obtain ⟨fu, rfl⟩ : ∃ t, fu = t + 1 := ⟨fu - 1, by omega⟩
    have ek : xwr ((k : Int) + 1) = ((k + 1 : Nat) : Int) := by rw [xwr_g _ (by omega) (by omega)]; omega
    have e1 : xwr (xwr (8 * xwr (((i + 1 : Nat) : Int) - 1)) + (k : Int)) = ((8 * i + k : Nat) : Int) := by
      rw [xwr_g (((i + 1 : Nat) : Int) - 1) (by omega) (by omega), xwr_g (8 * (((i + 1 : Nat) : Int) - 1)) (by omega) (by omega), xwr_g _ (by omega) (by omega)]; omega
    have e2 : xwr (xwr (8 * ((i + 1 : Nat) : Int)) + (k : Int)) = ((8 * (i + 1) + k : Nat) : Int) := by
      rw [xwr_g (8 * ((i + 1 : Nat) : Int)) (by omega) (by omega), xwr_g _ (by omega) (by omega)]; omega
    obtain ⟨G', u1, u2, u3⟩ := ih (k + 1) fu (xup2 G 116 (8 * (i + 1) + k) (G 116 (8 * i + k))) (by omega) (by omega)
    refine ⟨G', ?_, fun z z1 z2 => ?_, fun a j q => by rw [u3 a j (by omega), xup2_n (by omega)]⟩
    · show g285_62b r31 (g285_62 r31 f fu) f _ _ _ = _
      unfold g285_62b
      rw [if_neg (by omega), e1, e2, if_pos (by omega), if_pos (by omega), Int.toNat_natCast, Int.toNat_natCast, Option.bind_some, ek]
      exact u1
    · by_cases c : z = k
      · rw [c, u3 _ _ (by omega), xup2_s]
      · rw [u2 z (by omega) z2, xup2_n (by omega)]
theorem l_285_106 {i c : Nat} (hi : i ≤ 500) (hc : c < 1000) : ∀ (d k fu : Nat) (G : xG_), k + d = 8 → d < fu → G 0 52 = (c : Int) →
    ∃ G', g285_106 f fu (i : Int) (k : Int) G = some G' ∧ G' 0 52 = ((c + 1 : Nat) : Int) ∧ (∀ z, k ≤ z → z < 8 → G' 116 (8 * i + z) = G 110 z) ∧ ∀ a j, ¬ (a = 0 ∧ j = 52) → ¬ (a = 116 ∧ 8 * i + k ≤ j ∧ j < 8 * i + 8) → G' a j = G a j := by
  intro d
  induction d with
  | zero =>
    intro k fu G h1 h2 h3
    obtain ⟨fu, rfl⟩ : ∃ t, fu = t + 1 := ⟨fu - 1, by omega⟩
    have e : xwr ((c : Int) + 1) = ((c + 1 : Nat) : Int) := by rw [xwr_g _ (by omega) (by omega)]; omega
    refine ⟨xup2 G 0 52 ((c + 1 : Nat) : Int), ?_, xup2_s _ _ _ _, fun z z1 z2 => by omega, fun a j q1 q2 => xup2_n (by omega)⟩
    show g285_106b (g285_106 f fu) f _ _ _ = _
    unfold g285_106b
    rw [if_pos (by omega), h3, e]
    rfl
  | succ d ih =>
    intro k fu G h1 h2 h3
    obtain ⟨fu, rfl⟩ : ∃ t, fu = t + 1 := ⟨fu - 1, by omega⟩
    have ek : xwr ((k : Int) + 1) = ((k + 1 : Nat) : Int) := by rw [xwr_g _ (by omega) (by omega)]; omega
    have e2 : xwr (xwr (8 * (i : Int)) + (k : Int)) = ((8 * i + k : Nat) : Int) := by
      rw [xwr_g (8 * (i : Int)) (by omega) (by omega), xwr_g _ (by omega) (by omega)]; omega
    obtain ⟨G', u1, u4, u2, u3⟩ := ih (k + 1) fu (xup2 G 116 (8 * i + k) (G 110 k)) (by omega) (by omega) (by rw [xup2_n (by omega)]; exact h3)
    refine ⟨G', ?_, u4, fun z z1 z2 => ?_, fun a j q1 q2 => by rw [u3 a j q1 (by omega), xup2_n (by omega)]⟩
    · show g285_106b (g285_106 f fu) f _ _ _ = _
      unfold g285_106b
      rw [if_neg (by omega), if_pos (by omega), e2, if_pos (by omega), Int.toNat_natCast, Int.toNat_natCast, Option.bind_some, ek]
      exact u1
    · by_cases c : z = k
      · rw [c, u3 _ _ (by omega) (by omega), xup2_s]
      · rw [u2 z (by omega) z2, xup2_n (by omega)]
/-- v comes to its place -/
theorem l_285_31 {S : List (List Int)} {v : List Int} (hf : 600 < f) (hnv : nv ≤ 8) (hS : S.length < 500) (hl : ∀ t, t < S.length → (S.getD t []).length = nv) (hv : v.length = nv) : ∀ (i fu : Nat) (G : xG_), i ≤ S.length → i < fu → G 0 52 = (S.length : Int) → G 0 53 = (nv : Int) → (∀ k, k < nv → G 110 k = v.getD k 0) → (∀ t, t < i → ∀ k, k < nv → G 116 (8 * t + k) = (S.getD t []).getD k 0) → (∀ t, i ≤ t → t < S.length → (∀ k, k < nv → G 116 (8 * (t + 1) + k) = (S.getD t []).getD k 0) ∧ 0 < vCmp (S.getD t []) v) →
    ∃ G' j, g285_31 f fu (i : Int) G = some G' ∧ j ≤ S.length ∧ rAn G' nv (S.take j ++ v :: S.drop j) ∧ (∀ t, t + 1 = j → vCmp (S.getD t []) v ≤ 0) ∧ (∀ t, j ≤ t → t < S.length → 0 < vCmp (S.getD t []) v) ∧ ∀ a b, ¬ (a = 0 ∧ b = 52) → a ≠ 116 → G' a b = G a b := by
  -- it is put down at i
  have put : ∀ (i fu : Nat) (G : xG_), i ≤ S.length → G 0 52 = (S.length : Int) → (∀ k, k < nv → G 110 k = v.getD k 0) → (∀ t, t < i → ∀ k, k < nv → G 116 (8 * t + k) = (S.getD t []).getD k 0) → (∀ t, i ≤ t → t < S.length → (∀ k, k < nv → G 116 (8 * (t + 1) + k) = (S.getD t []).getD k 0) ∧ 0 < vCmp (S.getD t []) v) → (∀ t, t + 1 = i → vCmp (S.getD t []) v ≤ 0) → g285_31 f fu (i : Int) G = g285_104 f (i : Int) G → ∃ G' j, g285_31 f fu (i : Int) G = some G' ∧ j ≤ S.length ∧ rAn G' nv (S.take j ++ v :: S.drop j) ∧ (∀ t, t + 1 = j → vCmp (S.getD t []) v ≤ 0) ∧ (∀ t, j ≤ t → t < S.length → 0 < vCmp (S.getD t []) v) ∧ ∀ a b, ¬ (a = 0 ∧ b = 52) → a ≠ 116 → G' a b = G a b := fun i fu G h1 h3 h5 h6 h7 h8 he => by
    obtain ⟨G', u1, u2, u3, u4⟩ := l_285_106 (f := f) (i := i) (c := S.length) (by omega) (by omega) 8 0 f G rfl (by omega) h3
    have hlen : (S.take i ++ v :: S.drop i).length = S.length + 1 := by
      rw [List.length_append, List.length_cons, List.length_take, List.length_drop]; omega
    refine ⟨G', i, he.trans u1, h1, ⟨by rw [hlen]; exact u2, by omega, fun t ht => ?_⟩, h8, fun t t1 t2 => (h7 t t1 t2).2, fun a b q1 q2 => u4 a b q1 (by omega)⟩
    rw [hlen] at ht
    rw [getD_ins (by omega)]
    by_cases c1 : t < i
    · rw [if_pos c1]
      exact ⟨hl t (by omega), fun k hk => by rw [u4 _ _ (by omega) (by omega)]; exact h6 t c1 k hk⟩
    · rw [if_neg c1]
      by_cases c2 : t = i
      · rw [if_pos c2]
        refine ⟨hv, fun k hk => ?_⟩
        rw [c2, u3 k (Nat.zero_le k) (by omega)]
        exact h5 k hk
      · rw [if_neg c2]
        refine ⟨hl (t - 1) (by omega), fun k hk => ?_⟩
        have := (h7 (t - 1) (by omega) (by omega)).1 k hk
        rw [show t - 1 + 1 = t by omega] at this
        rw [u4 _ _ (by omega) (by omega)]
        exact this
  intro i
  induction i with
  | zero =>
    intro fu G h1 h2 h3 h4 h5 h6 h7
    obtain ⟨fu, rfl⟩ : ∃ t, fu = t + 1 := ⟨fu - 1, by omega⟩
    refine put 0 (fu + 1) G h1 h3 h5 h6 h7 (fun t ht => by omega) ?_
    show g285_31b (g285_31 f fu) f _ _ = _
    unfold g285_31b
    rw [if_pos (by decide)]
  | succ i ih =>
    intro fu G h1 h2 h3 h4 h5 h6 h7
    obtain ⟨fu, rfl⟩ : ∃ t, fu = t + 1 := ⟨fu - 1, by omega⟩
    have hi : i < S.length := by omega
    have r1 : rVe G 116 (8 * i) (S.getD i []) := ⟨by rw [xl116, hl i hi]; omega, by omega, by rw [hl i hi]; omega, fun k hk => h6 i (by omega) k (by rw [← hl i hi]; exact hk)⟩
    have r2 : rVe G 110 0 v := ⟨by rw [xl110, hv]; omega, by omega, by omega, fun k hk => by rw [Nat.zero_add]; exact h5 k (by omega)⟩
    have hcmp := l_262 (f := f) (n := nv) (by omega) r1 r2 (hl i hi) hv
    have e8 : xwr (8 * xwr (((i + 1 : Nat) : Int) - 1)) = ((8 * i : Nat) : Int) := by
      rw [xwr_g (((i + 1 : Nat) : Int) - 1) (by omega) (by omega), xwr_g _ (by omega) (by omega)]; omega
    have e0 : g285_31 f (fu + 1) ((i + 1 : Nat) : Int) G = (if vCmp (S.getD i []) v ≤ 0 then g285_104 f ((i + 1 : Nat) : Int) G else g285_62 (g285_31 f fu) f f ((i + 1 : Nat) : Int) 0 G) := by
      show g285_31b (g285_31 f fu) f _ _ = _
      unfold g285_31b
      rw [if_neg (by omega), e8, h4]
      have hcmp' : g262 f 116 ((8 * i : Nat) : Int) 110 0 (nv : Int) G = some (vCmp (S.getD i []) v, G) := hcmp
      rw [hcmp', Option.bind_some]
    by_cases c : vCmp (S.getD i []) v ≤ 0
    · exact put (i + 1) (fu + 1) G h1 h3 h5 h6 h7 (fun t ht => by rw [show t = i by omega]; exact c) (by rw [e0, if_pos c])
    · rw [if_neg c] at e0
      obtain ⟨G1, u1, u2, u3⟩ := l_285_62 (f := f) (r31 := g285_31 f fu) (i := i) (by omega) 8 0 f G rfl (by omega)
      obtain ⟨G', j, v1, v2, v3, v4, v5, v6⟩ := ih fu G1 (by omega) (by omega) (by rw [u3 _ _ (by omega)]; exact h3) (by rw [u3 _ _ (by omega)]; exact h4) (fun k hk => by rw [u3 _ _ (by omega)]; exact h5 k hk) (fun t ht k hk => by rw [u3 _ _ (by omega)]; exact h6 t (by omega) k hk) (fun t t1 t2 => by
        by_cases ct : t = i
        · rw [ct]
          refine ⟨fun k hk => ?_, by omega⟩
          rw [u2 k (Nat.zero_le k) (by omega)]
          exact h6 i (by omega) k hk
        · obtain ⟨q1, q2⟩ := h7 t (by omega) t2
          exact ⟨fun k hk => by rw [u3 _ _ (by omega)]; exact q1 k hk, q2⟩)
      refine ⟨G', j, ?_, v2, v3, v4, v5, fun a b q1 q2 => by rw [v6 a b q1 q2, u3 a b (by omega)]⟩
      rw [e0]
      exact u1.trans v1
end
end
section
/-! A QUERY: all its WAYS, sorted -/
theorem vLe_tr {a b c : List Int} (h1 : a.length = b.length) (h2 : b.length = c.length) (q1 : vLe a b) (q2 : vLe b c) : vLe a c := by
  unfold vLe at *
  by_cases e1 : vCmp a b = 0
  · rw [vCmp_eq h1 e1]; exact q2
  · by_cases e2 : vCmp b c = 0
    · rw [← vCmp_eq h2 e2]; exact q1
    · have := vCmp_tr h1 h2 (by omega) (by omega)
      omega
theorem mem_tk {α : Type} {l : List α} {d a : α} {j : Nat} (h : a ∈ l.take j) : ∃ t, t < j ∧ t < l.length ∧ l.getD t d = a := by
  obtain ⟨t, ht, e⟩ := List.getElem_of_mem h
  rw [List.length_take] at ht
  refine ⟨t, by omega, by omega, ?_⟩
  rw [getD_e (by omega), ← e, List.getElem_take]
theorem mem_dr {α : Type} {l : List α} {d a : α} {j : Nat} (h : a ∈ l.drop j) : ∃ t, j ≤ t ∧ t < l.length ∧ l.getD t d = a := by
  obtain ⟨t, ht, e⟩ := List.getElem_of_mem h
  rw [List.length_drop] at ht
  refine ⟨j + t, by omega, by omega, ?_⟩
  rw [getD_e (by omega), ← e, List.getElem_drop]
theorem ins_srt {nv j : Nat} {S : List (List Int)} {v : List Int} (hl : ∀ t, t < S.length → (S.getD t []).length = nv) (hv : v.length = nv) (hS : S.Pairwise vLe) (hj : j ≤ S.length) (h1 : ∀ t, t + 1 = j → vCmp (S.getD t []) v ≤ 0) (h2 : ∀ t, j ≤ t → t < S.length → 0 < vCmp (S.getD t []) v) : (S.take j ++ v :: S.drop j).Pairwise vLe := by
  have low : ∀ a ∈ S.take j, vLe a v := fun a ha => by
    obtain ⟨t, t1, t2, t3⟩ := mem_tk (d := []) ha
    rw [← t3]
    by_cases c : t + 1 = j
    · exact h1 t c
    · refine vLe_tr (b := S.getD (j - 1) []) (by rw [hl t t2, hl (j - 1) (by omega)]) (by rw [hl (j - 1) (by omega), hv]) ?_ (h1 (j - 1) (by omega))
      rw [getD_e t2, getD_e (by omega : j - 1 < S.length)]
      exact (List.pairwise_iff_getElem.mp hS) t (j - 1) t2 (by omega) (by omega)
  have high : ∀ b ∈ S.drop j, vLe v b := fun b hb => by
    obtain ⟨t, t1, t2, t3⟩ := mem_dr (d := []) hb
    have := h2 t t1 t2
    rw [← t3]
    unfold vLe
    rw [vCmp_anti]
    omega
  refine List.pairwise_append.mpr ⟨hS.sublist (List.take_sublist _ _), List.Pairwise.cons high (hS.sublist (List.drop_sublist _ _)), fun a ha b hb => ?_⟩
  rcases List.mem_cons.mp hb with q | q
  · rw [q]; exact low a ha
  · obtain ⟨t, t1, t2, t3⟩ := mem_tk (d := []) ha
    obtain ⟨u, u1, u2, u3⟩ := mem_dr (d := []) q
    rw [← t3, ← u3, getD_e t2, getD_e u2]
    exact (List.pairwise_iff_getElem.mp hS) t u t2 u2 (by omega)
/-- the WAYS found so far are answers -/
def pAn (nv : Nat) (W : List (List Int)) (G : xG_) : Prop := G 0 38 = 3 ∧ G 0 53 = (nv : Int) ∧ ((G 0 43 = 0 ∧ ∃ S, rAn G nv S ∧ S.Pairwise vLe ∧ S.Perm W) ∨ (G 0 43 ≠ 0 ∧ 500 < W.length))
section
variable {f nv c np : Nat} {l : List pLt} {R : Nat → List pRw} {N : Nat → Nat}
theorem l_an1 {G : xG_} {W : List (List Int)} (hf : 600 < f) (hnv : nv ≤ 8) (hP : pAn nv W G) (h43 : G 0 43 = 0) : ∃ G', g283 f G = some G' ∧ pAn nv (W ++ [vOf G nv]) G' ∧ xUs G G' := by
  obtain ⟨p1, p2, p3⟩ := hP
  rcases p3 with ⟨_, S, s1, s2, s3⟩ | ⟨q, _⟩
  · have hlen := s3.length_eq
    have e0 : g283 f G = (g285 f G).bind fun R145 => g283_118 f R145 := by
      unfold g283
      rw [p1, if_neg (by decide), if_neg (by decide), if_neg (by decide)]
    by_cases c5 : S.length = 500
    · refine ⟨xup2 (xup2 G 0 43 1) 0 52 501, ?_, ⟨?_, ?_, .inr ⟨?_, ?_⟩⟩, fun o j q1 q2 => ?_⟩
      · have e52 : G 0 52 = 500 := by rw [s1.1, c5]; rfl
        have ew : xwr (500 + 1) = 501 := xwr_g _ (by decide) (by decide)
        rw [e0]
        unfold g285
        rw [e52, if_neg (fun q => q rfl), Option.bind_some, xup2_n (by omega), e52, ew]
        rfl
      · rw [xup2_n (by omega), xup2_n (by omega)]; exact p1
      · rw [xup2_n (by omega), xup2_n (by omega)]; exact p2
      · rw [xup2_n (by omega), xup2_s]; decide
      · rw [List.length_append, ← hlen, c5]
        show 500 < 500 + 1
        decide
      · rw [xup2_n (by omega), xup2_n (by omega)]
    · have hS5 : S.length < 500 := by have := s1.2.1; omega
      have hl : ∀ t, t < S.length → (S.getD t []).length = nv := fun t ht => (s1.2.2 t ht).1
      obtain ⟨G', j, u1, u2, u3, u4, u5, u6⟩ := l_285_31 (f := f) (nv := nv) (S := S) (v := vOf G nv) hf hnv hS5 hl (vOf_len G nv) S.length f G (Nat.le_refl _) (by omega) s1.1 p2 (fun k hk => (vOf_get hk).symm) (fun t ht k hk => (s1.2.2 t ht).2 k hk) (fun t t1 t2 => by omega)
      refine ⟨G', ?_, ⟨by rw [u6 _ _ (by omega) (by omega)]; exact p1, by rw [u6 _ _ (by omega) (by omega)]; exact p2, .inl ⟨by rw [u6 _ _ (by omega) (by omega)]; exact h43, _, u3, ins_srt hl (vOf_len G nv) s2 u2 u4 u5, ?_⟩⟩, fun o j q1 q2 => u6 o j (by omega) (by omega)⟩
      · rw [e0]
        unfold g285
        rw [s1.1, if_pos (by omega), u1, Option.bind_some]
        rfl
      · refine List.perm_middle.trans ?_
        rw [List.take_append_drop]
        refine (List.Perm.cons _ s3).trans ?_
        exact (List.perm_append_singleton (vOf G nv) W).symm
  · exact absurd h43 q
/-- the answers of a QUERY: at most 500, sorted; or too many -/
theorem l_ask {G : xG_} (hf : 6300 < f) (hnv : nv ≤ 8) (hnp : np ≤ 16) (hc : c ≤ 6200) (hat : pAtoms l ≤ 3) (hw : ∀ y ∈ l, wLt np nv y ∧ (y.1 ≠ 3 → 0 ≤ y.2.1)) (hsafe : ∀ k, k < nv → (qBd l).testBit k = true) (hL : rLs G 2 24 c l) (h39 : G 0 39 = 24) (h38 : G 0 38 = 3) (h40 : G 0 40 = -1) (h37 : G 0 37 = 0) (h43 : G 0 43 = 0) (h52 : G 0 52 = 0) (h53 : G 0 53 = (nv : Int)) (hT : rTb G np N R) (hR : ∀ p, p < np → (R p).length ≤ 100 ∧ ∀ w ∈ R p, ∀ x ∈ w.1, vOk x) :
    ∃ G', g275 f 0 G = some G' ∧ xE G G' ∧ G' 0 53 = (nv : Int) ∧ ((G' 0 43 = 0 ∧ ∃ S, rAn G' nv S ∧ S.Pairwise vLe ∧ isAll l nv R (fun _ _ => True) S) ∨ (G' 0 43 ≠ 0 ∧ ∃ V : List (List Int), V.Nodup ∧ 500 < V.length ∧ ∀ v ∈ V, isW l nv R (fun _ _ => True) v)) := by
  have hop : ∀ v, isW l nv R (qOp (fun _ => 0) (-1) 0) v ↔ isW l nv R (fun _ _ => True) v := fun v => by
    have e : qOp (fun _ => 0) (-1) 0 = fun _ _ => True := funext (fun p => funext (fun w => propext ⟨fun _ => trivial, fun _ => .inl rfl⟩))
    rw [e]
  obtain ⟨G', V, u1, u2, u3, u4, u5, u6, u7, u8⟩ := l_275 (f := f) (P := pAn nv) (K := fun _ => 0) (ra := -1) (rb := 0) (N := N) (R := R) (np := np) (c := c) (nv := nv) (l := l) (r := 24) (G := G) hf (by decide) hnv hnp hc hat hw hsafe hL h39 h40 (fun q => absurd rfl q) (fun q => absurd rfl q) hT hR (fun W G1 G2 hP hx => by
    obtain ⟨p1, p2, p3⟩ := hP
    refine ⟨by rw [hx _ _ (by omega) (by omega) (by omega)]; exact p1, by rw [hx _ _ (by omega) (by omega) (by omega)]; exact p2, ?_⟩
    rw [hx _ _ (by omega) (by omega) (by omega)]
    rcases p3 with ⟨q1, S, s1, s2, s3⟩ | q
    · exact .inl ⟨q1, S, ⟨by rw [hx _ _ (by omega) (by omega) (by omega)]; exact s1.1, s1.2.1, fun i hi => ⟨(s1.2.2 i hi).1, fun k hk => by rw [hx _ _ (by omega) (by omega) (by omega)]; exact (s1.2.2 i hi).2 k hk⟩⟩, s2, s3⟩
    · exact .inr q) (fun W G1 m hP q43 _ _ _ _ _ => l_an1 (by omega) hnv hP q43) h37 h43 ⟨h38, h53, .inl ⟨h43, [], ⟨h52, by decide, fun i hi => absurd hi (Nat.not_lt_zero i)⟩, List.Pairwise.nil, List.Perm.nil⟩⟩
  refine ⟨G', u1, u2, u4.2.1, ?_⟩
  rcases u4.2.2 with ⟨q1, S, s1, s2, s3⟩ | ⟨q1, q2⟩
  · refine .inl ⟨q1, S, s1, s2, (s3.nodup_iff).mpr u6, fun v => ?_⟩
    rw [s3.mem_iff]
    exact ⟨fun hv => (hop v).mp (u7 v hv).1, fun hv => u8 q1 v ((hop v).mpr hv)⟩
  · exact .inr ⟨q1, V, u6, q2, fun v hv => (hop v).mp (u7 v hv).1⟩
end
end
section
/-! QUERIES: what is read -/
def smp {α β : Type} (g : α → β) (x : Nat ⊕ α) : Nat ⊕ β := match x with
  | .inl w => .inl w
  | .inr a => .inr (g a)
theorem smp_b {α β γ : Type} {g : β → γ} {x : Nat ⊕ α} {k : α → Nat ⊕ β} : smp g (pbind x k) = pbind x (fun a => smp g (k a)) := by
  cases x <;> rfl
/-- other mentions ahead -/
def mpM (M0 : List pMn) (s : pRs) : pRs := (s.1, s.2.1, s.2.2.1, M0 ++ s.2.2.2.1, s.2.2.2.2)
section
variable {t : tStr} {tell : Bool} {M0 : List pMn} {F : Nat}
theorem pAtom_M {k : Int} (s : pRs) : pAtom t tell k (mpM M0 s) = smp (mpM M0) (pAtom t tell k s) := by
  unfold pAtom
  rw [smp_b]
  refine congrArg (pbind _) (funext fun p => ?_)
  rw [smp_b]
  refine congrArg (pbind _) (funext fun i => ?_)
  rw [smp_b]
  refine congrArg (pbind _) (funext fun r => ?_)
  rw [smp_b]
  refine congrArg (pbind _) (funext fun q => ?_)
  rw [smp_b]
  refine congrArg (pbind _) (funext fun i => ?_)
  show (Sum.inr _ : Nat ⊕ pRs) = .inr (p.2.1, q.2.1, _, M0 ++ (s.2.2.2.1 ++ _), i)
  rw [← List.append_assoc]
  rfl
theorem pCmp_M (s : pRs) : pCmp t F (mpM M0 s) = smp (mpM M0) (pCmp t F s) := by
  unfold pCmp
  rw [smp_b]
  refine congrArg (pbind _) (funext fun a => ?_)
  split
  · rw [smp_b]
    rfl
  · rfl
theorem pLit_M (s : pRs) : pLit t tell F (mpM M0 s) = smp (mpM M0) (pLit t tell F s) := by
  unfold pLit
  show (if s.2.2.1.length = 8 then Sum.inl (kS t s.2.2.2.2) else if kK t s.2.2.2.2 = 9 then pAtom t tell 2 (mpM M0 (s.1, s.2.1, s.2.2.1, s.2.2.2.1, s.2.2.2.2 + 1)) else if kK t s.2.2.2.2 = 1 then (if 12 < kE t s.2.2.2.2 - kS t s.2.2.2.2 then .inl (kS t s.2.2.2.2 + 12) else if kK t (s.2.2.2.2 + 1) = 40 then (if pAtoms s.2.2.1 = 3 then .inl (kS t s.2.2.2.2) else pAtom t tell 1 (mpM M0 s)) else if kW t s.2.2.2.2 = -1 then .inl (kS t (s.2.2.2.2 + 1)) else pCmp t F (mpM M0 s)) else pCmp t F (mpM M0 s)) = _
  rw [pAtom_M, pAtom_M, pCmp_M]
  split
  · rfl
  split
  · rfl
  split
  · split
    · rfl
    split
    · split
      · rfl
      · rfl
    split
    · rfl
    · rfl
  · rfl
theorem pLits_M : ∀ (k : Nat) (s : pRs), pLits t tell F k (mpM M0 s) = smp (mpM M0) (pLits t tell F k s)
  | 0, _ => rfl
  | k + 1, s => by
    unfold pLits
    show (if kK t s.2.2.2.2 = 44 then pbind (pLit t tell F (mpM M0 (s.1, s.2.1, s.2.2.1, s.2.2.2.1, s.2.2.2.2 + 1))) (fun s' => pLits t tell F k s') else .inr (mpM M0 s)) = _
    split
    · rw [pLit_M, smp_b]
      cases pLit t tell F (s.1, s.2.1, s.2.2.1, s.2.2.2.1, s.2.2.2.2 + 1) with
      | inl w => rfl
      | inr a => exact pLits_M k a
    · rfl
/-- each ATOM is mentioned -/
def wQm (s : pRs) : Prop := (∀ y ∈ s.2.2.1, y.1 ≠ 3 → ∃ pl, (y.2.1, pl, (y.2.2.2.1.length : Int), (4 : Int)) ∈ s.2.2.2.1) ∧ s.2.2.2.1.length ≤ s.2.2.1.length ∧ pAtoms s.2.2.1 ≤ 3 ∧ s.2.2.1.length ≤ 8
theorem pAtoms_2 {l : List pLt} {y : pLt} : pAtoms (l ++ [y]) ≤ pAtoms l + 1 := by
  unfold pAtoms
  rw [List.filter_append, List.length_append]
  have : (List.filter (fun x => decide (x.1 = 1)) [y]).length ≤ 1 := List.length_filter_le _ [y]
  omega
theorem pLit_q {s s' : pRs} (h : pLit t tell F s = .inr s') (hs : wQm s) : wQm s' := by
  have atom : ∀ {k : Int} {s s' : pRs}, (k = 1 → pAtoms s.2.2.1 ≠ 3) → s.2.2.1.length ≤ 7 → pAtom t tell k s = .inr s' → wQm s → wQm s' := by
    intro k s s' hk h8 h hs
    unfold pAtom at h
    obtain ⟨p, h1, h2⟩ := pbind_inr h
    obtain ⟨j, _, h4⟩ := pbind_inr h2
    obtain ⟨y, h5, h6⟩ := pbind_inr h4
    obtain ⟨z, h7, h8'⟩ := pbind_inr h6
    obtain ⟨u, _, h10⟩ := pbind_inr h8'
    cases h10
    refine ⟨fun x hx h3 => ?_, ?_, ?_, ?_⟩
    · rcases List.mem_append.mp hx with q | q
      · obtain ⟨pl, hp⟩ := hs.1 x q h3
        exact ⟨pl, List.mem_append.mpr (.inl hp)⟩
      · rw [List.mem_singleton.mp q]
        exact ⟨_, List.mem_append.mpr (.inr (List.mem_singleton.mpr rfl))⟩
    · show (s.2.2.2.1 ++ _).length ≤ (s.2.2.1 ++ _).length
      rw [List.length_append, List.length_append, List.length_singleton, List.length_singleton]
      have := hs.2.1
      omega
    · show pAtoms (s.2.2.1 ++ _) ≤ 3
      have h3 := hs.2.2.1
      by_cases c : k = 1
      · have := hk c
        have := pAtoms_2 (l := s.2.2.1) (y := (k, p.1, kS t s.2.2.2.2, z.1, [], []))
        omega
      · rw [pAtoms_1, if_neg (by exact c)]
        exact h3
    · show (s.2.2.1 ++ _).length ≤ 8
      rw [List.length_append, List.length_singleton]
      omega
  have cmp : ∀ {s s' : pRs}, s.2.2.1.length ≤ 7 → pCmp t F s = .inr s' → wQm s → wQm s' := by
    intro s s' h8 h hs
    unfold pCmp at h
    obtain ⟨a, h1, h2⟩ := pbind_inr h
    split at h2
    · obtain ⟨b, h3, h4⟩ := pbind_inr h2
      cases h4
      refine ⟨fun x hx q3 => ?_, ?_, ?_, ?_⟩
      · rcases List.mem_append.mp hx with q | q
        · exact hs.1 x q q3
        · rw [List.mem_singleton.mp q] at q3
          exact absurd rfl q3
      · show s.2.2.2.1.length ≤ (s.2.2.1 ++ _).length
        rw [List.length_append]
        have := hs.2.1
        omega
      · show pAtoms (s.2.2.1 ++ _) ≤ 3
        rw [pAtoms_1, if_neg (show ¬ (3 : Int) = 1 by decide)]
        exact hs.2.2.1
      · show (s.2.2.1 ++ _).length ≤ 8
        rw [List.length_append, List.length_singleton]
        omega
    · cases h2
  unfold pLit at h
  split at h
  · cases h
  rename_i c8
  have h7 : s.2.2.1.length ≤ 7 := by have := hs.2.2.2; omega
  split at h
  · exact atom (s := (s.1, s.2.1, s.2.2.1, s.2.2.2.1, s.2.2.2.2 + 1)) (fun q => absurd q (by decide)) h7 h hs
  split at h
  · split at h
    · cases h
    split at h
    · split at h
      · cases h
      · rename_i c3
        exact atom (fun _ => c3) h7 h hs
    split at h
    · cases h
    · exact cmp h7 h hs
  · exact cmp h7 h hs
theorem pLits_q : ∀ {k : Nat} {s s' : pRs}, pLits t tell F k s = .inr s' → wQm s → wQm s' := by
  intro k
  induction k with
  | zero => intro s s' h hs; cases h; exact hs
  | succ k ih =>
    intro s s' h hs
    unfold pLits at h
    split at h
    · obtain ⟨u, g1, g2⟩ := pbind_inr h
      exact ih g2 (pLit_q g1 hs)
    · cases h; exact hs
/-- NAMES stay -/
theorem pLit_N {s s' : pRs} (h : pLit t false F s = .inr s') : s'.1 = s.1 := by
  have atom : ∀ {k : Int} {s s' : pRs}, pAtom t false k s = .inr s' → s'.1 = s.1 := by
    intro k s s' h
    unfold pAtom at h
    rw [if_neg (by decide)] at h
    obtain ⟨p, h1, h2⟩ := pbind_inr h
    obtain ⟨r, h1a, h1b⟩ := pbind_inr h1
    obtain ⟨j, _, h4⟩ := pbind_inr h2
    obtain ⟨y, h5, h6⟩ := pbind_inr h4
    obtain ⟨z, h7, h8'⟩ := pbind_inr h6
    obtain ⟨u, _, h10⟩ := pbind_inr h8'
    cases h1b
    cases h10
    rfl
  have cmp : ∀ {s s' : pRs}, pCmp t F s = .inr s' → s'.1 = s.1 := by
    intro s s' h
    unfold pCmp at h
    obtain ⟨a, h1, h2⟩ := pbind_inr h
    split at h2
    · obtain ⟨b, h3, h4⟩ := pbind_inr h2
      cases h4
      rfl
    · cases h2
  unfold pLit at h
  split at h
  · cases h
  split at h
  · exact atom (s := (s.1, s.2.1, s.2.2.1, s.2.2.2.1, s.2.2.2.2 + 1)) h
  split at h
  · split at h
    · cases h
    split at h
    · split at h
      · cases h
      · exact atom h
    split at h
    · cases h
    · exact cmp h
  · exact cmp h
theorem pLits_N : ∀ {k : Nat} {s s' : pRs}, pLits t false F k s = .inr s' → s'.1 = s.1 := by
  intro k
  induction k with
  | zero => intro s s' h; cases h; rfl
  | succ k ih =>
    intro s s' h
    unfold pLits at h
    split at h
    · obtain ⟨u, g1, g2⟩ := pbind_inr h
      exact (ih g2).trans (pLit_N (s := (s.1, s.2.1, s.2.2.1, s.2.2.2.1, s.2.2.2.2 + 1)) g1)
    · cases h; rfl
end
/-- a QUERY's text over a program -/
def qQu (t : List Int) (N : List Int) : Nat ⊕ pRs := pQuery (tstr (tBt t) t.length false) (4 * (t.length + 1) + 4) N
/-- the FAULTS of a QUERY -/
def qQf (s : pPg) (r : pRs) (k a : Int) : Prop := (k = 2 ∧ ∃ m ∈ r.2.2.2.1, m.1 = -1 ∧ a = (m.2.1 : Int)) ∨ (k = 3 ∧ ∃ m ∈ r.2.2.2.1, m.1 ≠ -1 ∧ pNn s.2.2.2.1 m.1 ≠ m.2.2.1 ∧ a = (m.2.1 : Int)) ∨ (k = 4 ∧ ∃ v, isF4 r.2.1 r.2.2.1 v ∧ a = ((r.2.1.getD v (0, 0)).2 : Int))
theorem qQu_wf {t N : List Int} {r : pRs} (hB : tTx (tBt t) t.length) (h : qQu t N = .inr r) : r.1 = N ∧ wQm r ∧ wRs false r := by
  unfold qQu pQuery at h
  obtain ⟨a, h1, h⟩ := pbind_inr h
  obtain ⟨b, h2, h⟩ := pbind_inr h
  obtain ⟨i, h3, h⟩ := pbind_inr h
  have hok := (tstr_ck (lm := false) hB).2
  have w0 : wRs false (N, [], [], [], 0) := ⟨fun l hl => (by cases hl), fun q => absurd q (by decide), fun l hl => (by cases hl), fun q => absurd q (by decide)⟩
  have w1 := pLit_wf hok h1 w0
  have w2 := pLits_wf hok h2 w1
  have q0 : wQm ((N, [], [], [], 0) : pRs) := ⟨fun l hl => (by cases hl), Nat.le_refl _, Nat.zero_le _, Nat.zero_le _⟩
  have q2 := pLits_q h2 (pLit_q h1 q0)
  have n2 := (pLits_N h2).trans (pLit_N h1)
  split at h
  · cases h
    exact ⟨n2, q2, w2⟩
  · cases h
end
section
/-! query() of the reference: the text is read -/
/-- what reading of a QUERY may change: mentions from m on, codes from c on, rule 24 -/
def xQr (m c : Nat) (G G' : xG_) : Prop := ∀ a j, ¬ (a = 0 ∧ (j ≤ 11 ∨ 21 ≤ j ∧ j ≤ 25)) → ¬ (a = 2 ∧ (j = 14 ∨ j = 37)) → ¬ (11 ≤ a ∧ a ≤ 14 ∧ m ≤ j) → ¬ (15 ≤ a ∧ a ≤ 22 ∧ j = 24) → ¬ (25 ≤ a ∧ a ≤ 32 ∧ 192 ≤ j) → ¬ (33 ≤ a ∧ a ≤ 34 ∧ 768 ≤ j) → ¬ (35 ≤ a ∧ a ≤ 36 ∧ c ≤ j) → G' a j = G a j
theorem xQr.tr {m c : Nat} {G G1 G2 : xG_} (h : xQr m c G G1) (h' : xQr m c G1 G2) : xQr m c G G2 := fun a j a1 a2 a3 a4 a5 a6 a7 => (h' a j a1 a2 a3 a4 a5 a6 a7).trans (h a j a1 a2 a3 a4 a5 a6 a7)
def mSh (q : Nat) (M : List pMn) : List pMn := M.map (fun m => (m.1, q + m.2.1, m.2.2.1, m.2.2.2))
theorem mSh_g {q : Nat} {M : List pMn} {k : Nat} (hk : k < M.length) : (mSh q M).getD k (0, 0, 0, 0) = ((M.getD k (0, 0, 0, 0)).1, q + (M.getD k (0, 0, 0, 0)).2.1, (M.getD k (0, 0, 0, 0)).2.2.1, (M.getD k (0, 0, 0, 0)).2.2.2) := by
  unfold mSh
  rw [List.getD_eq_getElem?_getD, List.getElem?_map, List.getElem?_eq_getElem hk, List.getD_eq_getElem?_getD, List.getElem?_eq_getElem hk]
  rfl
theorem mSh_l {q : Nat} {M : List pMn} : (mSh q M).length = M.length := List.length_map ..
theorem rMM.sh {G : xG_} {o q : Nat} {M : List pMn} (h : rMM G o q M) : rMs G o 0 (mSh q M) := by
  obtain ⟨h1, h2, h3⟩ := h
  have e : min (mSh q M).length 420 = M.length := by rw [mSh_l]; omega
  refine ⟨by rw [e]; exact h2, fun k hk => ?_⟩
  rw [e] at hk
  rw [mSh_g hk]
  obtain ⟨a1, a2, a3, a4⟩ := h3 k hk
  refine ⟨a1, ?_, a3, a4⟩
  rw [a2]
  show _ = ((0 : Nat) : Int) + ((q + (M.getD k (0, 0, 0, 0)).2.1 : Nat) : Int)
  omega
section
variable {f q c : Nat} {G : xG_} {t : List Int} {s : pPg}
/-- the state behind the reading of a QUERY -/
def rQr (q : Nat) (s : pPg) (x : Nat ⊕ pRs) (G : xG_) : Prop := pok x (fun w => G 0 7 = (w : Int)) (fun r => G 0 7 = -1 ∧ ∃ c', c' ≤ 6200 ∧ rVs G 2 0 24 r.2.1 ∧ rLs G 2 24 c' r.2.2.1 ∧ rMs G 2 0 (mSh q s.2.2.2.1 ++ r.2.2.2.1))
theorem rQr.ge {G' : xG_} {x : Nat ⊕ pRs} (h : rQr q s x G) (h0 : G' 0 7 = G 0 7) (h1 : ∀ a j, 2 ≤ a → a ≤ 36 → G' a j = G a j) : rQr q s x G' := by
  unfold rQr at h ⊢
  cases x with
  | inl w => show G' 0 7 = _; rw [h0]; exact h
  | inr r =>
    obtain ⟨a1, c', a2, a3, a4, a5⟩ := h
    refine ⟨by rw [h0]; exact a1, c', a2, ⟨by rw [h1 _ _ (by omega) (by omega)]; exact a3.1, a3.2.1, fun v hv => by rw [h1 _ _ (by omega) (by omega), h1 _ _ (by omega) (by omega)]; exact a3.2.2 v hv⟩, ⟨by rw [h1 _ _ (by omega) (by omega)]; exact a4.1, a4.2.1, fun k hk => (a4.2.2 k hk).fr (Nat.le_refl _) (fun a _ _ => h1 _ _ (by omega) (by omega)) (fun k _ => ⟨h1 _ _ (by omega) (by omega), h1 _ _ (by omega) (by omega)⟩) (fun j _ => ⟨h1 _ _ (by omega) (by omega), h1 _ _ (by omega) (by omega)⟩)⟩, a5.fr (h1 _ _ (by omega) (by omega)) (fun a j _ _ => h1 _ _ (by omega) (by omega))⟩
theorem l_qrd (hf : 6400 < f) (ht : t.length ≤ 3000) (hC : rC G) (hte : rTe G 240 0 t) (hP : rPr G 2 q c s) (h22 : G 0 22 = 2) :
    ∃ G', (∀ X : xG_ → Option (Int × xG_), ((g212 f 240 0 (t.length : Int) G).bind fun R138 => ((g236 f 24 R138).bind fun R143 => ((g246 f R143).bind fun R148 => ((g222 f 46 R148).bind fun R153 => ((g211 f R153).bind fun R158 => (if ¬ (R158.1) = 0 then X R158.2 else (if (R158.2 0 2) = 0 then X R158.2 else ((g210 f (R158.2 0 4) R158.2).bind fun R165 => X R165)))))))) = X G') ∧ xQr s.2.2.2.1.length c G G' ∧ rQr q s (qQu t s.1) G' := by
  obtain ⟨p1, p2, p3, p4, p5, p6⟩ := hP
  obtain ⟨L1, e1, hA⟩ := l_begin (f := f) (q := 0) (by omega) hte.1
  rw [hte.by] at hA
  let G3 := xup2 (xup2 (xup2 G 0 0 ((240 : Nat) : Int)) 0 1 (((0 : Nat) : Int) + t.length)) 0 11 0
  have g3 : ∀ a j, ¬ (a = 0 ∧ (j = 0 ∨ j = 1 ∨ j = 11)) → G3 a j = G a j := fun a j _ => by
    show xup2 _ _ _ _ _ _ = _
    simp (disch := omega) only [xup2_n]
  have hTx : rTx G3 0 (tBt t) t.length := by
    rw [← hte.by]
    exact rTx_of hte.1 (by show xup2 _ _ _ _ _ _ = _; simp (disch := omega) only [xup2_n, xup2_s]) (by show xup2 _ _ _ _ _ _ = _; simp (disch := omega) only [xup2_n, xup2_s]) (fun j => g3 _ _ (by omega))
  have hC3 : rC G3 := hC.ge (fun j _ _ => g3 _ _ (by omega))
  have hE : rEv G3 0 (tBt t) t.length false 2 := ⟨hTx, xup2_s _ _ _ _, hC3, by rw [g3 _ _ (by omega)]; exact h22, by omega⟩
  have e2 : g236 f 24 (xlx G3 L1) = some (xlx (rBeg G3 2 24) L1) := l_beg (r := 24) hE (by decide)
  let G4 := rBeg G3 2 24
  have g4 : ∀ a j, ¬ (a = 0 ∧ (j = 23 ∨ j = 24 ∨ j = 25)) → ¬ (17 ≤ a ∧ a ≤ 22 ∧ j = 24) → G4 a j = G3 a j := fun a j q1 q2 => rBeg_o q1 (by omega)
  have h37 : G3 2 37 = (c : Int) := by rw [g3 _ _ (by omega)]; exact p6
  obtain ⟨hIS, h19, h24⟩ := rBeg_st (r := 24) hE (by decide) h37
  have hE4 : rEv G4 0 (tBt t) t.length false 2 := hE.fg (rBeg_fg (r := 24) (c0 := 0) (m0 := 0) (n0 := 0))
  have hM4 : rMs G4 2 0 (mSh q s.2.2.2.1) := p2.sh.fr (by rw [g4 _ _ (by omega) (by omega), g3 _ _ (by omega)]) (fun a j _ _ => by rw [g4 _ _ (by omega) (by omega), g3 _ _ (by omega)])
  have hN4 : rNs G4 2 s.1 := ⟨by rw [g4 _ _ (by omega) (by omega), g3 _ _ (by omega)]; exact p1.1, p1.2.1, fun k hk => by rw [g4 _ _ (by omega) (by omega), g3 _ _ (by omega)]; exact p1.2.2 k hk⟩
  have hS : rRS G4 0 (tBt t) t.length false 2 24 c s.1 [] [] (mSh q s.2.2.2.1) := by
    refine ⟨hE4, ?_, by decide, hN4, ⟨?_, by decide, fun v hv => absurd hv (Nat.not_lt_zero v)⟩, by rw [g4 _ _ (by omega) (by omega)]; exact h37, ⟨h19, by decide, fun k hk => absurd hk (Nat.not_lt_zero k)⟩, hM4, h24, by decide, ?_⟩
    · show rBeg _ _ _ _ _ = _
      unfold rBeg; simp (disch := omega) only [xup2_n, xup2_s]
    · show rBeg _ _ _ _ _ = _
      unfold rBeg; simp (disch := omega) only [xup2_n, xup2_s]; rfl
    · show rBeg _ _ _ _ _ = _
      unfold rBeg; simp (disch := omega) only [xup2_n, xup2_s]
  have h5 := l_lits (f := f) (F := 4 * (t.length + 1) + 4) (tell := false) (cb := c) (by omega) (by omega) ⟨fun q => absurd q (by decide), fun q => absurd rfl q⟩ (by omega) hS hA (by omega)
  have hm : min (mSh q s.2.2.2.1).length 420 = s.2.2.2.1.length := by rw [mSh_l]; have := p2.1; omega
  have fr : ∀ {G' : xG_} {L' : Nat → Int}, xfl 2 24 (8 * 24 + 0) 0 c (min (mSh q s.2.2.2.1).length 420) s.1.length G4 G' → xQr s.2.2.2.1.length c G (xlx G' L') := fun {G' L'} h a j a1 a2 a3 a4 a5 a6 a7 => by
    rw [hm] at h
    rw [xlx_o _ _ (by omega), h a j (by omega), g4 a j (by omega) (by omega), g3 a j (by omega)]
  have pe : pbind (pLit (tstr (tBt t) t.length false) false (4 * (t.length + 1) + 4) (s.1, [], [], mSh q s.2.2.2.1, 0)) (pLits (tstr (tBt t) t.length false) false (4 * (t.length + 1) + 4) 9) = smp (mpM (mSh q s.2.2.2.1)) (pbind (pLit (tstr (tBt t) t.length false) false (4 * (t.length + 1) + 4) (s.1, [], [], [], 0)) (pLits (tstr (tBt t) t.length false) false (4 * (t.length + 1) + 4) 9)) := by
    have e0 : ((s.1, [], [], mSh q s.2.2.2.1, 0) : pRs) = mpM (mSh q s.2.2.2.1) (s.1, [], [], [], 0) := by
      show _ = ((s.1, [], [], mSh q s.2.2.2.1 ++ [], 0) : pRs)
      rw [List.append_nil]
    rw [e0, pLit_M]
    cases pLit (tstr (tBt t) t.length false) false (4 * (t.length + 1) + 4) (s.1, [], [], [], 0) with
    | inl w => rfl
    | inr a => exact pLits_M 9 a
  rw [pe] at h5
  have e1' : g212 f 240 0 (t.length : Int) G = some (xlx G3 L1) := by
    have ez : (((0 : Nat) : Int) + t.length) = (t.length : Int) := by omega
    rw [ez] at e1
    have e2 : g212 f 240 0 (t.length : Int) G = _ := e1
    rw [e2]
    show _ = some (xlx (xup2 (xup2 (xup2 G 0 0 ((240 : Nat) : Int)) 0 1 (((0 : Nat) : Int) + t.length)) 0 11 0) L1)
    rw [ez]
  have eqq : qQu t s.1 = pbind (pbind (pLit (tstr (tBt t) t.length false) false (4 * (t.length + 1) + 4) (s.1, [], [], [], 0)) (pLits (tstr (tBt t) t.length false) false (4 * (t.length + 1) + 4) 9)) fun s => pbind (pNeed (tstr (tBt t) t.length false) 46 s.2.2.2.2) fun i => if kK (tstr (tBt t) t.length false) i = 0 then .inr (s.1, s.2.1, s.2.2.1, s.2.2.2.1, i) else .inl (kS (tstr (tBt t) t.length false) i) := by
    unfold qQu pQuery
    cases pLit (tstr (tBt t) t.length false) false (4 * (t.length + 1) + 4) (s.1, [], [], [], 0) with
    | inl w => rfl
    | inr a => rfl
  have i1 : ¬ ((1 : Int) = 0) := by decide
  cases hp : pbind (pLit (tstr (tBt t) t.length false) false (4 * (t.length + 1) + 4) (s.1, [], [], [], 0)) (pLits (tstr (tBt t) t.length false) false (4 * (t.length + 1) + 4) 9) with
  | inl w =>
    rw [hp] at h5 eqq
    obtain ⟨G5, L5, u1, u2, u3, u4⟩ := h5
    have hbad : L5 7 ≠ -1 := by omega
    refine ⟨xlx G5 L5, fun X => ?_, fr u3, ?_⟩
    · rw [e1', Option.bind_some, e2, Option.bind_some]
      show Option.bind (g246 f (xlx G4 L1)) _ = _
      rw [u1, Option.bind_some, l_need_bad hbad, Option.bind_some, l_bad, if_neg hbad, Option.bind_some, if_pos i1]
    · rw [eqq]
      show L5 7 = (w : Int)
      omega
  | inr r =>
    rw [hp] at h5 eqq
    obtain ⟨G5, L5, c', u1, u2, u3, u4, u5, u6⟩ := h5
    replace u2 : rAt 0 (tBt t) t.length false r.2.2.2.2 L5 := u2
    replace u6 : c' ≤ c + r.2.2.2.2 := u6
    have hE5 := u4.1
    have es : ∀ X : xG_ → Option (Int × xG_), ((g212 f 240 0 (t.length : Int) G).bind fun R138 => ((g236 f 24 R138).bind fun R143 => ((g246 f R143).bind fun R148 => ((g222 f 46 R148).bind fun R153 => ((g211 f R153).bind fun R158 => (if ¬ (R158.1) = 0 then X R158.2 else (if (R158.2 0 2) = 0 then X R158.2 else ((g210 f (R158.2 0 4) R158.2).bind fun R165 => X R165)))))))) = ((g222 f 46 (xlx G5 L5)).bind fun R153 => ((g211 f R153).bind fun R158 => (if ¬ (R158.1) = 0 then X R158.2 else (if (R158.2 0 2) = 0 then X R158.2 else ((g210 f (R158.2 0 4) R158.2).bind fun R165 => X R165))))) := fun X => by
      rw [e1', Option.bind_some, e2, Option.bind_some]
      show Option.bind (g246 f (xlx G4 L1)) _ = _
      rw [u1, Option.bind_some]
    have h46 : isSg 46 := by unfold isSg; omega
    by_cases c1 : kK (tstr (tBt t) t.length false) r.2.2.2.2 = 46
    · obtain ⟨L6, s1, s2⟩ := l_need (f := f) (by omega) hE5 u2 h46 c1
      have s1' : g222 f 46 (xlx G5 L5) = some (xlx G5 L6) := s1
      have tk6 := s2.tk hTx.2.1
      have k0 : L6 2 = 0 ↔ kK (tstr (tBt t) t.length false) (r.2.2.2.2 + 1) = 0 := tk6.2.2.2.2.2.2.1
      have e6 : ∀ X : xG_ → Option (Int × xG_), ((g222 f 46 (xlx G5 L5)).bind fun R153 => ((g211 f R153).bind fun R158 => (if ¬ (R158.1) = 0 then X R158.2 else (if (R158.2 0 2) = 0 then X R158.2 else ((g210 f (R158.2 0 4) R158.2).bind fun R165 => X R165))))) = (if L6 2 = 0 then X (xlx G5 L6) else X (xlx G5 (xu L6 7 (L6 4)))) := fun X => by
        rw [s1', Option.bind_some, l_bad, if_pos s2.1, Option.bind_some]
        simp only [xlx_2, xlx_4]
        rw [if_neg (fun q => q trivial), l_fail, if_pos s2.1]
        rfl
      have eqr : qQu t s.1 = if kK (tstr (tBt t) t.length false) (r.2.2.2.2 + 1) = 0 then .inr (r.1, r.2.1, r.2.2.1, r.2.2.2.1, r.2.2.2.2 + 1) else .inl (kS (tstr (tBt t) t.length false) (r.2.2.2.2 + 1)) := by
        rw [eqq]
        show pbind (pNeed _ 46 r.2.2.2.2) _ = _
        unfold pNeed
        rw [if_pos c1]
        rfl
      by_cases c2 : kK (tstr (tBt t) t.length false) (r.2.2.2.2 + 1) = 0
      · refine ⟨xlx G5 L6, fun X => by rw [es, e6, if_pos (k0.mpr c2)], fr u3, ?_⟩
        rw [eqr, if_pos c2]
        have hle : r.2.2.2.2 ≤ t.length := by
          have := u2.2.2.1
          have := (tS_le hTx.2.1 r.2.2.2.2).1
          omega
        obtain ⟨v1, v2, v3, v4, v5, v6, v7, v8, v9, v10, v11⟩ := u4
        refine ⟨s2.1, c', by omega, ⟨?_, v5.2.1, fun v hv => ?_⟩, ⟨?_, v7.2.1, fun k hk => ?_⟩, v8.fr ?_ ?_⟩
        · rw [xlx_o _ _ (by omega)]; exact v5.1
        · rw [xlx_o _ _ (by omega), xlx_o _ _ (by omega)]; exact v5.2.2 v hv
        · rw [xlx_o _ _ (by omega)]; exact v7.1
        · exact (v7.2.2 k hk).fr (Nat.le_refl _) (fun a _ _ => xlx_o _ _ (by omega)) (fun k _ => ⟨xlx_o _ _ (by omega), xlx_o _ _ (by omega)⟩) (fun j _ => ⟨xlx_o _ _ (by omega), xlx_o _ _ (by omega)⟩)
        · exact xlx_o _ _ (by omega)
        · exact fun a j _ _ => xlx_o _ _ (by omega)
      · refine ⟨xlx G5 (xu L6 7 (L6 4)), fun X => by rw [es, e6, if_neg (fun q => c2 (k0.mp q))], fr u3, ?_⟩
        rw [eqr, if_neg c2]
        show xu L6 7 (L6 4) 7 = _
        have := s2.at4 hE5
        show L6 4 = _
        omega
    · have s1 := l_need_no (f := f) hE5 u2 h46 c1
      have s1' : g222 f 46 (xlx G5 L5) = some (xlx G5 (xu L5 7 (((0 : Nat) : Int) + kS (tstr (tBt t) t.length false) r.2.2.2.2))) := s1
      have hbad : xu L5 7 (((0 : Nat) : Int) + kS (tstr (tBt t) t.length false) r.2.2.2.2) 7 ≠ -1 := by
        show ((0 : Nat) : Int) + kS (tstr (tBt t) t.length false) r.2.2.2.2 ≠ -1
        omega
      refine ⟨xlx G5 (xu L5 7 (((0 : Nat) : Int) + kS (tstr (tBt t) t.length false) r.2.2.2.2)), fun X => ?_, fr u3, ?_⟩
      · rw [es, s1', Option.bind_some, l_bad, if_neg hbad, Option.bind_some, if_pos i1]
      · rw [eqq]
        show pok (pbind (pNeed _ 46 r.2.2.2.2) _) _ _
        unfold pNeed
        rw [if_neg c1]
        show ((0 : Nat) : Int) + kS (tstr (tBt t) t.length false) r.2.2.2.2 = _
        omega
end
end
section
/-! query() of the reference: the FAULTS of a QUERY, its answers, what is kept -/
/-- what is kept of the answers: how many VARIABLES, the answers -/
def rKp (G : xG_) (kp : Nat × List (List Int)) : Prop := G 0 105 = (kp.2.length : Int) ∧ G 0 106 = (kp.1 : Int) ∧ kp.1 ≤ 8 ∧ kp.2.length ≤ 500 ∧ ∀ i, i < kp.2.length → (kp.2.getD i []).length = kp.1 ∧ ∀ k, k < kp.1 → G 275 (8 * i + k) = (kp.2.getD i []).getD k 0
theorem rKp.ge {G G' : xG_} {kp : Nat × List (List Int)} (h : rKp G kp) (h0 : ∀ j, 105 ≤ j → j ≤ 106 → G' 0 j = G 0 j) (h1 : ∀ j, G' 275 j = G 275 j) : rKp G' kp := ⟨by rw [h0 _ (by omega) (by omega)]; exact h.1, by rw [h0 _ (by omega) (by omega)]; exact h.2.1, h.2.2.1, h.2.2.2.1, fun i hi => ⟨(h.2.2.2.2 i hi).1, fun k hk => by rw [h1]; exact (h.2.2.2.2 i hi).2 k hk⟩⟩
/-- FAULTS 2 and 3 of what a QUERY mentions -/
def qFm (s : pPg) (Q : List pMn) (k a : Int) : Prop := (k = 2 ∧ ∃ m ∈ Q, m.1 = -1 ∧ a = (m.2.1 : Int)) ∨ (k = 3 ∧ ∃ m ∈ Q, m.1 ≠ -1 ∧ pNn s.2.2.2.1 m.1 ≠ m.2.2.1 ∧ a = (m.2.1 : Int))
/-- the answer, the place, what is kept behind a QUERY -/
def stQu (s : pPg) (M : Nat → List pRw) (kp : Nat × List (List Int)) (t : List Int) (v pl : Int) (kp' : Nat × List (List Int)) : Prop := pok (qQu t s.1)
  (fun w => v = xwr (-1 - (w : Int)) ∧ pl = -1 ∧ kp' = kp)
  (fun r => (∃ k, v = xwr (-5000 - k) ∧ kp' = kp ∧ qQf s r k pl ∧ ∀ k' a', qQf s r k' a' → k < k' ∨ k = k' ∧ pl ≤ a') ∨
    (∀ k a, ¬ qQf s r k a) ∧ pl = -1 ∧ ((v = -6000 ∧ kp' = kp ∧ ∃ V : List (List Int), V.Nodup ∧ 500 < V.length ∧ ∀ x ∈ V, isW r.2.2.1 r.2.1.length M (fun _ _ => True) x) ∨
      ∃ S : List (List Int), S.length ≤ 500 ∧ S.Pairwise vLe ∧ isAll r.2.2.1 r.2.1.length M (fun _ _ => True) S ∧ v = (S.length : Int) ∧ kp' = if S.length = 0 then kp else (r.2.1.length, S)))
def xQa (G G' : xG_) : Prop := ∀ a j, ¬ (a = 0 ∧ (26 ≤ j ∧ j ≤ 27 ∨ 37 ≤ j ∧ j ≤ 40 ∨ 42 ≤ j ∧ j ≤ 61 ∨ j = 75 ∨ 105 ≤ j ∧ j ≤ 106)) → ¬ (110 ≤ a ∧ a ≤ 121 ∧ a ≠ 118) → a ≠ 275 → G' a j = G a j
section
variable {f q : Nat} {s : pPg} {r : pRs} {R : Nat → List pRw}
/-- the rest of asked() behind its first loop -/
def g369e (f : Nat) (G : xG_) : Option (Int × xG_) := ((g258 f 2 24 G).bind fun R109 => (if (R109 0 26) = 0 then ((some (xup2 R109 0 39 24)).bind fun G118 => ((some (xup2 G118 0 38 3)).bind fun G122 => ((some (xup2 G122 0 40 (-1))).bind fun G126 => ((some (xup2 G126 0 37 0)).bind fun G130 => ((some (xup2 G130 0 43 0)).bind fun G134 => ((some (xup2 G134 0 52 0)).bind fun G138 => (if 0 ≤ (24 : Int) ∧ (24 : Int) < 25 then ((some (xup2 G138 0 53 (G138 (2 + 20) (24 : Int).toNat))).bind fun G143 => ((g275 f 0 G143).bind fun R144 => (if (R144 0 43) = 0 then (if ¬ (R144 0 52) = 0 then ((some (xup2 R144 0 105 (R144 0 52))).bind fun G154 => ((some (xup2 G154 0 106 (G154 0 53))).bind fun G158 => g369_209 f f 0 G158)) else (some (0, R144))) else (some (-6000, R144))))) else none))))))) else ((g362 f (R109 0 26) (R109 0 27) R109).bind fun R159 => (some (R159.1, R159.2)))))
theorem l_369_209 {n : Nat} (hn : n ≤ 500) : ∀ (d x fu : Nat) (G : xG_), x + d = 8 * n → d < fu → G 0 52 = (n : Int) →
    ∃ G', g369_209 f fu (x : Int) G = some ((n : Int), G') ∧ (∀ z, x ≤ z → z < 8 * n → G' 275 z = G 116 z) ∧ ∀ a j, ¬ (a = 275 ∧ x ≤ j) → G' a j = G a j := by
  intro d
  induction d with
  | zero =>
    intro x fu G h1 h2 h52
    obtain ⟨fu, rfl⟩ : ∃ t, fu = t + 1 := ⟨fu - 1, by omega⟩
    refine ⟨G, ?_, fun z _ _ => by omega, fun _ _ _ => rfl⟩
    show g369_209b (g369_209 f fu) f _ _ = _
    unfold g369_209b
    rw [h52, xwr_g _ (by omega) (by omega), if_pos (by omega)]
  | succ d ih =>
    intro x fu G h1 h2 h52
    obtain ⟨fu, rfl⟩ : ∃ t, fu = t + 1 := ⟨fu - 1, by omega⟩
    have ek : xwr ((x : Int) + 1) = ((x + 1 : Nat) : Int) := by rw [xwr_g _ (by omega) (by omega)]; omega
    obtain ⟨G', u1, u2, u3⟩ := ih (x + 1) fu (xup2 G 275 x (G 116 x)) (by omega) (by omega) (by rw [xup2_n (by omega)]; exact h52)
    refine ⟨G', ?_, fun z z1 z2 => ?_, fun a j q => by rw [u3 a j (by omega), xup2_n (by omega)]⟩
    · show g369_209b (g369_209 f fu) f _ _ = _
      unfold g369_209b
      rw [h52, xwr_g _ (by omega) (by omega), if_neg (by omega), if_pos (by omega), if_pos (by omega), Int.toNat_natCast, Option.bind_some, ek]
      exact u1
    · by_cases c : z = x
      · rw [c, u3 _ _ (by omega), xup2_s]
      · rw [u2 z (by omega) z2, xup2_n (by omega)]
theorem rF.cg {G : xG_} {S S' : Int → Int → Prop} (h : rF G S) (he : ∀ k a, S k a ↔ S' k a) : rF G S' := by
  have : S = S' := funext (fun k => funext (fun a => propext (he k a)))
  rw [← this]; exact h
theorem l_369_7 (h376 : s.2.2.2.1.length ≤ 376) (h8 : r.2.2.2.1.length ≤ 8) (hw : ∀ m ∈ r.2.2.2.1, -1 ≤ m.1 ∧ m.1 < s.1.length) (h16 : s.1.length ≤ 16) : ∀ (d y fu : Nat) (G : xG_) (S : Int → Int → Prop), y + d = r.2.2.2.1.length → d < fu → rMs G 2 0 (mSh q s.2.2.2.1 ++ r.2.2.2.1) → rPn G 2 s → rF G S →
    ∃ G', g369_7 f fu ((s.2.2.2.1.length + y : Nat) : Int) G = g369e f G' ∧ xf26 G G' ∧ rF G' (fun k a => S k a ∨ qFm s (r.2.2.2.1.drop y) k a) := by
  have hl : (mSh q s.2.2.2.1 ++ r.2.2.2.1).length = s.2.2.2.1.length + r.2.2.2.1.length := by rw [List.length_append, mSh_l]
  intro d
  induction d with
  | zero =>
    intro y fu G S h1 h2 hM hP hF
    obtain ⟨fu, rfl⟩ : ∃ t, fu = t + 1 := ⟨fu - 1, by omega⟩
    refine ⟨G, ?_, fun _ _ _ => rfl, hF.cg (fun k a => ?_)⟩
    · show g369_7b (g369_7 f fu) f _ _ = _
      unfold g369_7b
      rw [hM.1, hl, if_pos (by omega)]
      rfl
    · rw [List.drop_eq_nil_of_le (by omega)]
      unfold qFm
      refine ⟨fun h => .inl h, fun h => ?_⟩
      rcases h with h | ⟨_, m, hm, _⟩ | ⟨_, m, hm, _⟩
      · exact h
      · cases hm
      · cases hm
  | succ d ih =>
    intro y fu G S h1 h2 hM hP hF
    obtain ⟨fu, rfl⟩ : ∃ t, fu = t + 1 := ⟨fu - 1, by omega⟩
    have hy : y < r.2.2.2.1.length := by omega
    obtain ⟨a1, a2, a3, a4⟩ := hM.2 (s.2.2.2.1.length + y) (by rw [hl]; omega)
    have eg : (mSh q s.2.2.2.1 ++ r.2.2.2.1).getD (s.2.2.2.1.length + y) (0, 0, 0, 0) = r.2.2.2.1[y] := by
      rw [List.getD_eq_getElem?_getD, List.getElem?_append_right (by rw [mSh_l]; omega), mSh_l, Nat.add_sub_cancel_left, List.getElem?_eq_getElem hy]
      rfl
    rw [eg] at a1 a2 a3 a4
    have hm := hw _ (List.getElem_mem hy)
    have ek : xwr (((s.2.2.2.1.length + y : Nat) : Int) + 1) = ((s.2.2.2.1.length + (y + 1) : Nat) : Int) := by rw [xwr_g _ (by omega) (by omega)]; omega
    have ed : r.2.2.2.1.drop y = r.2.2.2.1[y] :: r.2.2.2.1.drop (y + 1) := List.drop_eq_getElem_cons hy
    have mM : ∀ {G1 : xG_}, xf26 G G1 → rMs G1 2 0 (mSh q s.2.2.2.1 ++ r.2.2.2.1) := fun {G1} hx => hM.fr (hx _ _ (by omega)) (fun a j _ _ => hx _ _ (by omega))
    have mP : ∀ {G1 : xG_}, xf26 G G1 → rPn G1 2 s := fun {G1} hx y hy => by rw [hx _ _ (by omega)]; exact hP y hy
    have step : ∀ {G1 : xG_} {S1 : Int → Int → Prop}, xf26 G G1 → rF G1 S1 → g369_7 f (fu + 1) ((s.2.2.2.1.length + y : Nat) : Int) G = g369_7 f fu ((s.2.2.2.1.length + (y + 1) : Nat) : Int) G1 → (∀ k a, S1 k a ∨ qFm s (r.2.2.2.1.drop (y + 1)) k a ↔ S k a ∨ qFm s (r.2.2.2.1.drop y) k a) → ∃ G', g369_7 f (fu + 1) ((s.2.2.2.1.length + y : Nat) : Int) G = g369e f G' ∧ xf26 G G' ∧ rF G' (fun k a => S k a ∨ qFm s (r.2.2.2.1.drop y) k a) := fun {G1 S1} hx hF1 he hs => by
      obtain ⟨G', u1, u2, u3⟩ := ih (y + 1) fu G1 S1 (by omega) (by omega) (mM hx) (mP hx) hF1
      exact ⟨G', he.trans u1, fun a j hj => (u2 a j hj).trans (hx a j hj), u3.cg hs⟩
    have e2 : ((0 : Nat) : Int) + (r.2.2.2.1[y].2.1 : Int) = (r.2.2.2.1[y].2.1 : Int) := by omega
    rw [e2] at a2
    by_cases c1 : r.2.2.2.1[y].1 = -1
    · obtain ⟨G1, k1, k2, k3⟩ := l_faulty (f := f) (k := 2) (a := (r.2.2.2.1[y].2.1 : Int)) (by decide) hF
      refine step k3 k2 ?_ ?_
      · show g369_7b (g369_7 f fu) f _ _ = _
        unfold g369_7b g369_85
        rw [hM.1, hl, if_neg (by omega), if_pos (by omega), Int.toNat_natCast, a1, if_neg (fun q => q c1), a2, k1, Option.bind_some, ek]
        rw [if_pos (by omega)]
      · intro k a
        rw [ed]
        unfold qFm
        constructor
        · rintro ((h | ⟨h, h'⟩) | ⟨h, m, hm, h'⟩ | ⟨h, m, hm, h'⟩)
          · exact .inl h
          · exact .inr (.inl ⟨h, _, List.mem_cons_self .., c1, h'⟩)
          · exact .inr (.inl ⟨h, m, List.mem_cons_of_mem _ hm, h'⟩)
          · exact .inr (.inr ⟨h, m, List.mem_cons_of_mem _ hm, h'⟩)
        · rintro (h | ⟨h, m, hm, h'⟩ | ⟨h, m, hm, h'⟩)
          · exact .inl (.inl h)
          · rcases List.mem_cons.mp hm with e | e
            · subst e; exact .inl (.inr ⟨h, h'.2⟩)
            · exact .inr (.inl ⟨h, m, e, h'⟩)
          · rcases List.mem_cons.mp hm with e | e
            · subst e; exact absurd c1 h'.1
            · exact .inr (.inr ⟨h, m, e, h'⟩)
    · have h0 : 0 ≤ r.2.2.2.1[y].1 := by omega
      obtain ⟨p, hp⟩ : ∃ p : Nat, r.2.2.2.1[y].1 = (p : Int) := ⟨r.2.2.2.1[y].1.toNat, by omega⟩
      have hpl : p < s.1.length := by omega
      have hnn := hP p hpl
      by_cases c2 : pNn s.2.2.2.1 (p : Int) = r.2.2.2.1[y].2.2.1
      · refine step (fun _ _ _ => rfl) hF ?_ ?_
        · show g369_7b (g369_7 f fu) f _ _ = _
          unfold g369_7b g369_85
          rw [hM.1, hl, if_neg (by omega), if_pos (by omega), Int.toNat_natCast, a1, if_pos c1, hp, if_pos (by omega), if_pos (by omega), Int.toNat_natCast, hnn, a3, if_pos c2, ek]
        · intro k a
          rw [ed]
          unfold qFm
          constructor
          · rintro (h | ⟨h, m, hm, h'⟩ | ⟨h, m, hm, h'⟩)
            · exact .inl h
            · exact .inr (.inl ⟨h, m, List.mem_cons_of_mem _ hm, h'⟩)
            · exact .inr (.inr ⟨h, m, List.mem_cons_of_mem _ hm, h'⟩)
          · rintro (h | ⟨h, m, hm, h'⟩ | ⟨h, m, hm, h'⟩)
            · exact .inl h
            · rcases List.mem_cons.mp hm with e | e
              · subst e; exact absurd h'.1 c1
              · exact .inr (.inl ⟨h, m, e, h'⟩)
            · rcases List.mem_cons.mp hm with e | e
              · subst e; exact absurd (by rw [hp]; exact c2) h'.2.1
              · exact .inr (.inr ⟨h, m, e, h'⟩)
      · obtain ⟨G1, k1, k2, k3⟩ := l_faulty (f := f) (k := 3) (a := (r.2.2.2.1[y].2.1 : Int)) (by decide) hF
        refine step k3 k2 ?_ ?_
        · show g369_7b (g369_7 f fu) f _ _ = _
          unfold g369_7b g369_85
          rw [hM.1, hl, if_neg (by omega), if_pos (by omega), Int.toNat_natCast, a1, if_pos c1, hp, if_pos (by omega), if_pos (by omega), Int.toNat_natCast, hnn, a3, if_neg c2, if_pos (by omega), a2, k1, Option.bind_some, ek]
        · intro k a
          rw [ed]
          unfold qFm
          constructor
          · rintro ((h | ⟨h, h'⟩) | ⟨h, m, hm, h'⟩ | ⟨h, m, hm, h'⟩)
            · exact .inl h
            · exact .inr (.inr ⟨h, _, List.mem_cons_self .., c1, by rw [hp]; exact c2, h'⟩)
            · exact .inr (.inl ⟨h, m, List.mem_cons_of_mem _ hm, h'⟩)
            · exact .inr (.inr ⟨h, m, List.mem_cons_of_mem _ hm, h'⟩)
          · rintro (h | ⟨h, m, hm, h'⟩ | ⟨h, m, hm, h'⟩)
            · exact .inl (.inl h)
            · rcases List.mem_cons.mp hm with e | e
              · subst e; exact absurd h'.1 c1
              · exact .inr (.inl ⟨h, m, e, h'⟩)
            · rcases List.mem_cons.mp hm with e | e
              · subst e; exact .inl (.inr ⟨h, h'.2.2⟩)
              · exact .inr (.inr ⟨h, m, e, h'⟩)
end
end
section
/-! query() of the reference -/
section
variable {f q c' : Nat} {s : pPg} {r : pRs} {R : Nat → List pRw} {t : List Int} {kp : Nat × List (List Int)}
theorem qQf_e {k a : Int} : qQf s r k a ↔ qFm s r.2.2.2.1 k a ∨ k = 4 ∧ ∃ v, isF4 r.2.1 r.2.2.1 v ∧ a = ((0 : Nat) : Int) + (r.2.1.getD v (0, 0)).2 := by
  unfold qQf qFm
  constructor
  · rintro (h | h | ⟨h, v, h1, h2⟩)
    · exact .inl (.inl h)
    · exact .inl (.inr h)
    · exact .inr ⟨h, v, h1, by omega⟩
  · rintro ((h | h) | ⟨h, v, h1, h2⟩)
    · exact .inl h
    · exact .inr (.inl h)
    · exact .inr (.inr ⟨h, v, h1, by omega⟩)
theorem l_369 {G : xG_} (hf : 6400 < f) (hq : qQu t s.1 = .inr r) (hB : tTx (tBt t) t.length) (h376 : s.2.2.2.1.length ≤ 376) (h16 : s.1.length ≤ 16) (hc : c' ≤ 6200) (hV : rVs G 2 0 24 r.2.1) (hL : rLs G 2 24 c' r.2.2.1) (hM : rMs G 2 0 (mSh q s.2.2.2.1 ++ r.2.2.2.1)) (hP : rPn G 2 s) (hT : rTb G s.1.length (qN s) R) (hR : qTb s R) (h75 : G 0 75 = -1) (hk : rKp G kp) :
    ∃ v G' kp', g369 f (s.2.2.2.1.length : Int) G = some (v, G') ∧ xQa G G' ∧ rKp G' kp' ∧ stQu s R kp t v (G' 0 75) kp' := by
  obtain ⟨w1, w2, w3⟩ := qQu_wf hB hq
  have w3n : ∀ l ∈ r.2.2.1, wLt s.1.length r.2.1.length l := by rw [← w1]; exact w3.1
  have w3m : ∀ m ∈ r.2.2.2.1, -1 ≤ m.1 ∧ m.1 < s.1.length := by rw [← w1]; exact w3.2.2.1
  have h8 : r.2.2.2.1.length ≤ 8 := Nat.le_trans w2.2.1 w2.2.2.2
  have g0 : ∀ a j, ¬ (a = 0 ∧ j = 26) → xup2 G 0 26 0 a j = G a j := fun a j h => xup2_n (by omega)
  have hF0 : rF (xup2 G 0 26 0) (fun _ _ => False) := .inl ⟨xup2_s _ _ _ _, fun _ _ h => h⟩
  obtain ⟨G1, a1, a2, a3⟩ := l_369_7 (f := f) (q := q) (r := r) (s := s) h376 h8 w3m h16 r.2.2.2.1.length 0 f (xup2 G 0 26 0) _ (by omega) (by omega) (hM.fr (g0 _ _ (by omega)) (fun a j _ _ => g0 _ _ (by omega))) (fun y hy => by rw [g0 _ _ (by omega)]; exact hP y hy) hF0
  have g1 : ∀ a j, ¬ (a = 0 ∧ (j = 26 ∨ j = 27)) → G1 a j = G a j := fun a j h => by rw [a2 a j h, g0 a j (by omega)]
  have hL1 : ∀ {Z : xG_}, (∀ a j, 2 ≤ a → a ≤ 36 → Z a j = G a j) → rLs Z 2 24 c' r.2.2.1 := fun {Z} h1 => ⟨by rw [h1 _ _ (by omega) (by omega)]; exact hL.1, hL.2.1, fun k hk => (hL.2.2 k hk).fr (Nat.le_refl _) (fun a _ _ => h1 _ _ (by omega) (by omega)) (fun k _ => ⟨h1 _ _ (by omega) (by omega), h1 _ _ (by omega) (by omega)⟩) (fun j _ => ⟨h1 _ _ (by omega) (by omega), h1 _ _ (by omega) (by omega)⟩)⟩
  have hV1 : rVs G1 2 0 24 r.2.1 := ⟨by rw [g1 _ _ (by omega)]; exact hV.1, hV.2.1, fun v hv => by rw [g1 _ _ (by omega), g1 _ _ (by omega)]; exact hV.2.2 v hv⟩
  obtain ⟨G2, b1, b2, b3⟩ := l_unsafe (f := f) (o := 2) (r := 24) (q := 0) (by omega) (by decide) (by decide) hc (hL1 (Z := G1) (fun a j _ _ => g1 _ _ (by omega))) hV1 w3n a3
  have hF2 : rF G2 (qQf s r) := b3.cg (fun k a => by
    rw [qQf_e, List.drop_zero]
    exact ⟨fun h => by rcases h with (h | h) | h; exact h.elim; exact .inl h; exact .inr h, fun h => by rcases h with h | h; exact .inl (.inr h); exact .inr h⟩)
  have g2 : ∀ a j, ¬ (a = 0 ∧ (j = 26 ∨ j = 27)) → G2 a j = G a j := fun a j h => (b2 a j h).trans (g1 a j h)
  have b1' : g258 f 2 24 G1 = some G2 := b1
  have e0 : g369 f (s.2.2.2.1.length : Int) G = g369e f G1 := by
    unfold g369
    rw [Option.bind_some]
    exact a1
  unfold stQu
  rw [hq]
  rcases hF2 with ⟨f1, f2⟩ | ⟨f1, f2, f3⟩
  · -- no FAULT
    have hsafe : ∀ k, k < r.2.1.length → (qBd r.2.2.1).testBit k = true := fun k hk => by
      cases hb : (qBd r.2.2.1).testBit k with
      | true => rfl
      | false => exact absurd (show qQf s r 4 _ from .inr (.inr ⟨rfl, k, ⟨hk, hb⟩, rfl⟩)) (f2 _ _)
    have hw0 : ∀ y ∈ r.2.2.1, wLt s.1.length r.2.1.length y ∧ (y.1 ≠ 3 → 0 ≤ y.2.1) := fun y hy => ⟨w3n y hy, fun h3 => by
      obtain ⟨pl, hm⟩ := w2.1 y hy h3
      have := w3m _ hm
      have hne : y.2.1 ≠ -1 := fun e => f2 2 (pl : Int) (.inl ⟨rfl, _, hm, e, rfl⟩)
      have h1 : -1 ≤ y.2.1 := this.1
      omega⟩
    let G3 := xup2 (xup2 (xup2 (xup2 (xup2 (xup2 (xup2 G2 0 39 24) 0 38 3) 0 40 (-1)) 0 37 0) 0 43 0) 0 52 0) 0 53 (r.2.1.length : Int)
    have g3 : ∀ a j, ¬ (a = 0 ∧ (37 ≤ j ∧ j ≤ 40 ∨ j = 43 ∨ j = 52 ∨ j = 53)) → G3 a j = G2 a j := fun a j h => by
      show xup2 _ _ _ _ _ _ = _
      simp (disch := omega) only [xup2_n]
    have g30 : ∀ a j, ¬ (a = 0 ∧ (26 ≤ j ∧ j ≤ 27 ∨ 37 ≤ j ∧ j ≤ 40 ∨ j = 43 ∨ j = 52 ∨ j = 53)) → G3 a j = G a j := fun a j h => by rw [g3 a j (by omega), g2 a j (by omega)]
    have z : ∀ j, G3 0 j = xup2 (xup2 (xup2 (xup2 (xup2 (xup2 (xup2 G2 0 39 24) 0 38 3) 0 40 (-1)) 0 37 0) 0 43 0) 0 52 0) 0 53 (r.2.1.length : Int) 0 j := fun _ => rfl
    obtain ⟨G4, d1, d2, d4, d3⟩ := l_ask (f := f) (G := G3) (c := c') (N := qN s) (R := R) (nv := r.2.1.length) (np := s.1.length) (l := r.2.2.1) (by omega) hV.2.1 h16 hc w2.2.2.1 hw0 hsafe (hL1 (fun a j _ _ => g30 _ _ (by omega))) (by rw [z]; simp (disch := omega) only [xup2_n, xup2_s]) (by rw [z]; simp (disch := omega) only [xup2_n, xup2_s]) (by rw [z]; simp (disch := omega) only [xup2_n, xup2_s]) (by rw [z]; simp (disch := omega) only [xup2_n, xup2_s]) (by rw [z]; simp (disch := omega) only [xup2_n, xup2_s]) (by rw [z]; simp (disch := omega) only [xup2_n, xup2_s]) (by rw [z]; simp (disch := omega) only [xup2_n, xup2_s]) (hT.ge (fun a j _ _ => g30 _ _ (by omega))) (fun p hp => ⟨(hR p hp).1, fun w hw => ((hR p hp).2.2 w hw).2⟩)
    have e1 : g369e f G1 = (if (G4 0 43) = 0 then (if ¬ (G4 0 52) = 0 then ((some (xup2 G4 0 105 (G4 0 52))).bind fun G154 => ((some (xup2 G154 0 106 (G154 0 53))).bind fun G158 => g369_209 f f 0 G158)) else (some (0, G4))) else (some (-6000, G4))) := by
      unfold g369e
      rw [b1', Option.bind_some, if_pos f1]
      simp only [Option.bind_some]
      rw [if_pos (by decide)]
      have e22 : xup2 (xup2 (xup2 (xup2 (xup2 (xup2 G2 0 39 24) 0 38 3) 0 40 (-1)) 0 37 0) 0 43 0) 0 52 0 (2 + 20) (24 : Int).toNat = (r.2.1.length : Int) := by
        simp (disch := omega) only [xup2_n]
        show G2 22 24 = _
        rw [g2 _ _ (by omega)]
        exact hV.1
      rw [e22]
      have d1' : g275 f 0 (xup2 (xup2 (xup2 (xup2 (xup2 (xup2 (xup2 G2 0 39 24) 0 38 3) 0 40 (-1)) 0 37 0) 0 43 0) 0 52 0) 0 53 (r.2.1.length : Int)) = some G4 := d1
      rw [d1', Option.bind_some]
    have g4 : ∀ a j, ¬ (a = 0 ∧ (26 ≤ j ∧ j ≤ 27 ∨ 37 ≤ j ∧ j ≤ 40 ∨ 42 ≤ j ∧ j ≤ 61)) → ¬ (110 ≤ a ∧ a ≤ 121 ∧ a ≠ 118) → G4 a j = G a j := fun a j q1 q2 => by rw [d2 a j (by omega) q2, g30 a j (by omega)]
    have h475 : G4 0 75 = -1 := by rw [g4 _ _ (by omega) (by omega)]; exact h75
    have fr4 : xQa G G4 := fun a j q1 q2 q3 => g4 a j (by omega) q2
    rcases d3 with ⟨q43, S, s1, s2, s3⟩ | ⟨q43, V, v1, v2, v3⟩
    · by_cases cS : S.length = 0
      · refine ⟨0, G4, kp, ?_, fr4, hk.ge (fun j _ _ => g4 _ _ (by omega) (by omega)) (fun j => g4 _ _ (by omega) (by omega)), .inr ⟨f2, h475, .inr ⟨S, s1.2.1, s2, s3, by rw [cS]; rfl, by rw [if_pos cS]⟩⟩⟩
        rw [e0, e1, if_pos q43, s1.1, cS, if_neg (fun q => q rfl)]
      · let G5 := xup2 (xup2 G4 0 105 (S.length : Int)) 0 106 (r.2.1.length : Int)
        have g5 : ∀ a j, ¬ (a = 0 ∧ (j = 105 ∨ j = 106)) → G5 a j = G4 a j := fun a j h => by
          show xup2 _ _ _ _ _ _ = _
          rw [xup2_n (by omega), xup2_n (by omega)]
        obtain ⟨G6, k1, k2, k3⟩ := l_369_209 (f := f) (n := S.length) s1.2.1 (8 * S.length) 0 f G5 (by omega) (by have := s1.2.1; omega) (by rw [g5 _ _ (by omega)]; exact s1.1)
        have h453 : G4 0 53 = (r.2.1.length : Int) := d4
        refine ⟨(S.length : Int), G6, (r.2.1.length, S), ?_, fun a j q1 q2 q3 => by rw [k3 a j (by omega), g5 a j (by omega), fr4 a j q1 q2 q3], ⟨?_, ?_, hV.2.1, s1.2.1, fun i hi => ⟨(s1.2.2 i hi).1, fun k hk => ?_⟩⟩, .inr ⟨f2, ?_, .inr ⟨S, s1.2.1, s2, s3, rfl, by rw [if_neg cS]⟩⟩⟩
        · rw [e0, e1, if_pos q43, s1.1, if_pos (by omega), Option.bind_some, Option.bind_some, xup2_n (by omega), h453]
          exact k1
        · rw [k3 _ _ (by omega)]
          show xup2 _ _ _ _ _ _ = _
          rw [xup2_n (by omega), xup2_s]
        · rw [k3 _ _ (by omega)]
          exact xup2_s _ _ _ _
        · have hnv := hV.2.1
          rw [k2 _ (Nat.zero_le _) (by show 8 * i + k < 8 * S.length; have hi' : i < S.length := hi; have hk' : k < r.2.1.length := hk; omega), g5 _ _ (by omega)]
          exact (s1.2.2 i hi).2 k hk
        · rw [k3 _ _ (by omega), g5 _ _ (by omega)]; exact h475
    · refine ⟨-6000, G4, kp, ?_, fr4, hk.ge (fun j _ _ => g4 _ _ (by omega) (by omega)) (fun j => g4 _ _ (by omega) (by omega)), .inr ⟨f2, h475, .inl ⟨rfl, rfl, V, v1, v2, v3⟩⟩⟩
      rw [e0, e1, if_neg q43]
  · refine ⟨xwr (-5000 - G2 0 26), xup2 G2 0 75 (G2 0 27), kp, ?_, fun a j q1 q2 q3 => by rw [xup2_n (by omega), g2 a j (by omega)], hk.ge (fun j _ _ => by rw [xup2_n (by omega), g2 _ _ (by omega)]) (fun j => by rw [xup2_n (by omega), g2 _ _ (by omega)]), .inl ⟨G2 0 26, rfl, rfl, ?_, ?_⟩⟩
    · rw [e0]
      unfold g369e g362
      rw [b1', Option.bind_some, if_neg f1]
      rfl
    · rw [xup2_s]; exact f2
    · rw [xup2_s]; exact f3
end
end
section
/-! query() and answer() of the reference -/
theorem rEn.qr {G G' : xG_} {q c : Nat} {s : pPg} {R : Nat → List pRw} (h : rEn G q c s R) (hx : ∀ a j, 2 ≤ a → a ≤ 36 → ¬ (a = 2 ∧ (j = 14 ∨ j = 37)) → ¬ (11 ≤ a ∧ a ≤ 14 ∧ s.2.2.2.1.length ≤ j) → ¬ (15 ≤ a ∧ a ≤ 22 ∧ j = 24) → ¬ (25 ≤ a ∧ a ≤ 32 ∧ 192 ≤ j) → ¬ (33 ≤ a ∧ a ≤ 34 ∧ 768 ≤ j) → ¬ (35 ≤ a ∧ a ≤ 36 ∧ c ≤ j) → G' a j = G a j) (h14 : G' 2 14 = G 2 14) (h37 : G' 2 37 = G 2 37) (hr : ∀ a j, 107 ≤ a → a ≤ 109 → G' a j = G a j) : rEn G' q c s R := by
  obtain ⟨⟨a1, a2, a3, a4, a5, a6⟩, b, d, e⟩ := h
  have z : ∀ a j, 2 ≤ a → a ≤ 10 → ¬ (a = 2 ∧ (j = 14 ∨ j = 37)) → G' a j = G a j := fun a j _ _ _ => hx a j (by omega) (by omega) (by omega) (by omega) (by omega) (by omega) (by omega) (by omega)
  refine ⟨⟨⟨by rw [z _ _ (by omega) (by omega) (by omega)]; exact a1.1, a1.2.1, fun k hk => by rw [z _ _ (by omega) (by omega) (by omega)]; exact a1.2.2 k hk⟩, ⟨a2.1, by rw [h14]; exact a2.2.1, fun k hk => ?_⟩, ⟨by rw [z _ _ (by omega) (by omega) (by omega)]; exact a3.1, a3.2.1, fun r hr => ?_⟩, fun p hp => ?_, a5, by rw [h37]; exact a6⟩, fun y hy => by rw [z _ _ (by omega) (by omega) (by omega)]; exact b y hy, ⟨fun x hx' => by rw [z _ _ (by omega) (by omega) (by omega)]; exact d.1 x hx', fun x hx' => by rw [z _ _ (by omega) (by omega) (by omega)]; exact d.2 x hx'⟩, e.ge hr⟩
  · rw [hx _ _ (by omega) (by omega) (by omega) (by omega) (by omega) (by omega) (by omega) (by omega), hx _ _ (by omega) (by omega) (by omega) (by omega) (by omega) (by omega) (by omega) (by omega), hx _ _ (by omega) (by omega) (by omega) (by omega) (by omega) (by omega) (by omega) (by omega), hx _ _ (by omega) (by omega) (by omega) (by omega) (by omega) (by omega) (by omega) (by omega)]
    exact a2.2.2 k hk
  · have h1 : rRu (fun a j => if 15 ≤ a ∧ a ≤ 36 then G' a j else G a j) 2 q r c (s.2.2.2.2.1.getD r dRu) := (a3.2.2 r hr).fg (r0 := 24) (c' := c) (m0 := 0) (n0 := 0) (fun a j hj => by
      show (if 15 ≤ a ∧ a ≤ 36 then G' a j else G a j) = G a j
      split
      · exact hx a j (by omega) (by omega) (by omega) (by omega) (by omega) (by omega) (by omega) (by omega)
      · rfl) (by have := a3.2.1; omega) (Nat.le_refl _)
    exact h1.ge (fun a j _ _ => (if_pos (by omega)).symm)
  · rw [z _ _ (by omega) (by omega) (by omega), z _ _ (by omega) (by omega) (by omega), z _ _ (by omega) (by omega) (by omega), z _ _ (by omega) (by omega) (by omega)]
    exact a4 p hp
def xfHq (G G' : xG_) : Prop := ∀ a j, ¬ (a = 0 ∧ (j ≤ 11 ∨ 21 ≤ j ∧ j ≤ 27 ∨ 37 ≤ j ∧ j ≤ 40 ∨ 42 ≤ j ∧ j ≤ 61 ∨ 65 ≤ j ∧ j ≤ 66 ∨ 73 ≤ j ∧ j ≤ 75 ∨ 105 ≤ j ∧ j ≤ 106)) → ¬ (1 ≤ a ∧ a ≤ 36) → ¬ (107 ≤ a ∧ a ≤ 121 ∧ a ≠ 118) → a ≠ 275 → G' a j = G a j
section
variable {f m n hr : Nat} {T : List (List Int)} {lns : Nat → sLn} {t : List Int} {kp : Nat × List (List Int)}
theorem l_368 {G : xG_} (hf : 1000100 < f) (h : rHb G T m lns hr n) (hp : rTp G t) (hk : rKp G kp) :
    ∃ v G' kp', g368 f G = some (v, G') ∧ (∃ s M, isMo T (lMo (lns hr)) s M ∧ stQu s M kp t v (G' 0 75) kp') ∧ rHb G' T m lns hr n ∧ rKp G' kp' ∧ G' 0 73 = 0 ∧ G' 0 74 = 0 ∧ xfHq G G' := by
  obtain ⟨p1, p2, p3⟩ := hp
  let G0 := xup2 (xup2 (xup2 G 0 74 0) 0 73 0) 0 75 (-1)
  have g0 : ∀ a j, ¬ (a = 0 ∧ 73 ≤ j ∧ j ≤ 75) → G0 a j = G a j := fun a j _ => by
    show xup2 _ _ _ _ _ _ = _
    simp (disch := omega) only [xup2_n]
  have h0 : rHb G0 T m lns hr n := h.ge (fun j _ => g0 _ _ (by omega)) (fun a j _ _ => g0 _ _ (by omega)) (fun a j _ _ => g0 _ _ (by omega)) (fun a j _ _ _ => g0 _ _ (by omega))
  obtain ⟨G1, q, c, s, M, k1, k2, k3, k4, k5⟩ := l_ld hf h0
  have g1 : ∀ a j, ¬ (a = 0 ∧ (j ≤ 11 ∨ 21 ≤ j ∧ j ≤ 27 ∨ 37 ≤ j ∧ j ≤ 40 ∨ 42 ≤ j ∧ j ≤ 61 ∨ 65 ≤ j ∧ j ≤ 66)) → ¬ (1 ≤ a ∧ a ≤ 36) → ¬ (107 ≤ a ∧ a ≤ 121 ∧ a ≠ 118) → G1 a j = G0 a j := k2
  have g2 : ∀ a j, ¬ (a = 0 ∧ j = 22) → xup2 G1 0 22 2 a j = G1 a j := fun a j _ => xup2_n (by omega)
  have k4' := k4
  obtain ⟨hP, hPn, hPk, hTb⟩ := k4
  have hP2 : rPr (xup2 G1 0 22 2) 2 q c s := hP.ge (fun j => g2 _ _ (by omega)) (fun a j _ _ _ _ _ => g2 _ _ (by omega))
  have hte : rTe (xup2 G1 0 22 2) 240 0 t := p3.ge (fun j => by rw [g2 _ _ (by omega), g1 _ _ (by omega) (by omega) (by omega), g0 _ _ (by omega)])
  have hC2 : rC (xup2 G1 0 22 2) := k5.1.ge (fun j _ _ => g2 _ _ (by omega))
  obtain ⟨G3, a1, a2, a3⟩ := l_qrd (f := f) (t := t) (by omega) p2 hC2 hte hP2 (xup2_s _ _ _ _)
  have e14 : G1 2 14 = (s.2.2.2.1.length : Int) := hP.2.1.2.1
  have e37 : G1 2 37 = (c : Int) := hP.2.2.2.2.2
  have e0 : g368 f G = g368_86 f (s.2.2.2.1.length : Int) (c : Int) G3 := by
    have e1 : g361 f G = some ((t.length : Int), xup2 (xup2 G 0 74 0) 0 73 0) := by
      unfold g361
      simp only [Option.bind_some]
      rw [xup2_n (by omega), p1]
    unfold g368
    rw [e1, Option.bind_some, Option.bind_some]
    show Option.bind (g296 f G0) _ = _
    rw [k1, Option.bind_some, Option.bind_some, e14, e37]
    exact a1 _
  have g3 : ∀ a j, ¬ (a = 0 ∧ (j ≤ 11 ∨ 21 ≤ j ∧ j ≤ 25)) → ¬ (2 ≤ a ∧ a ≤ 36) → G3 a j = G1 a j := fun a j q1 q2 => by
    rw [a2 a j q1 (by omega) (by omega) (by omega) (by omega) (by omega) (by omega), g2 a j (by omega)]
  have h375 : G3 0 75 = -1 := by
    rw [g3 _ _ (by omega) (by omega), g1 _ _ (by omega) (by omega) (by omega)]
    exact xup2_s _ _ _ _
  have hk3 : rKp G3 kp := hk.ge (fun j _ _ => by rw [g3 _ _ (by omega) (by omega), g1 _ _ (by omega) (by omega) (by omega), g0 _ _ (by omega)]) (fun j => by rw [g3 _ _ (by omega) (by omega), g1 _ _ (by omega) (by omega) (by omega), g0 _ _ (by omega)])
  have bd : g211 f G3 = some (if G3 0 7 = -1 then 0 else 1, G3) := by
    have := l_bad (f := f) (G := G3) (L := G3 0)
    rw [xlx_id] at this
    exact this
  have i1 : ¬ ((1 : Int) = 0) := by decide
  -- behind all: the numbers of mentions and codes come back
  have fin : ∀ (v : Int) (G4 : xG_) (kp' : Nat × List (List Int)), g368_86 f (s.2.2.2.1.length : Int) (c : Int) G3 = g368_107 f (s.2.2.2.1.length : Int) (c : Int) v G4 → xQa G3 G4 → rKp G4 kp' → stQu s M kp t v (G4 0 75) kp' → ∃ v G' kp', g368 f G = some (v, G') ∧ (∃ s M, isMo T (lMo (lns hr)) s M ∧ stQu s M kp t v (G' 0 75) kp') ∧ rHb G' T m lns hr n ∧ rKp G' kp' ∧ G' 0 73 = 0 ∧ G' 0 74 = 0 ∧ xfHq G G' := by
    intro v G4 kp' he hx hk4 hst
    have g5 : ∀ a j, ¬ (a = 2 ∧ (j = 14 ∨ j = 37)) → xup2 (xup2 G4 2 14 (s.2.2.2.1.length : Int)) 2 37 (c : Int) a j = G4 a j := fun a j _ => by rw [xup2_n (by omega), xup2_n (by omega)]
    have g54 : ∀ a j, ¬ (a = 0 ∧ (j ≤ 11 ∨ 21 ≤ j ∧ j ≤ 27 ∨ 37 ≤ j ∧ j ≤ 40 ∨ 42 ≤ j ∧ j ≤ 61 ∨ j = 75 ∨ 105 ≤ j ∧ j ≤ 106)) → ¬ (2 ≤ a ∧ a ≤ 36) → ¬ (110 ≤ a ∧ a ≤ 121 ∧ a ≠ 118) → a ≠ 275 → xup2 (xup2 G4 2 14 (s.2.2.2.1.length : Int)) 2 37 (c : Int) a j = G1 a j := fun a j q1 q2 q3 q4 => by rw [g5 a j (by omega), hx a j (by omega) q3 q4, g3 a j (by omega) q2]
    refine ⟨v, xup2 (xup2 G4 2 14 (s.2.2.2.1.length : Int)) 2 37 (c : Int), kp', ?_, ⟨s, M, k3, by rw [g5 _ _ (by omega)]; exact hst⟩, ?_, hk4.ge (fun j _ _ => g5 _ _ (by omega)) (fun j => g5 _ _ (by omega)), ?_, ?_, fun a j q1 q2 q3 q4 => ?_⟩
    · rw [e0, he]
      rfl
    · have hc := k5.c
      obtain ⟨y1, y2, y3, y4, y5, y6, y7, y8, y9⟩ := k5
      refine rHb.of (hc.ge (fun j _ => g54 _ _ (by omega) (by omega) (by omega) (by omega)) (fun a j _ _ _ => g54 _ _ (by omega) (by omega) (by omega) (by omega))) (by rw [g54 _ _ (by omega) (by omega) (by omega) (by omega)]; exact y3) y4 (by rw [g54 _ _ (by omega) (by omega) (by omega) (by omega)]; exact y6) (by rw [g54 _ _ (by omega) (by omega) (by omega) (by omega)]; exact y7) (by rw [g54 _ _ (by omega) (by omega) (by omega) (by omega), g54 _ _ (by omega) (by omega) (by omega) (by omega)]; exact y8) ?_
      intro w1 k hk' w2 s' M' hM'
      rw [g54 _ _ (by omega) (by omega) (by omega) (by omega), g54 _ _ (by omega) (by omega) (by omega) (by omega)] at w1
      rw [g54 _ _ (by omega) (by omega) (by omega) (by omega)] at w2
      obtain ⟨q', c', hE⟩ := y9 w1 k hk' w2 s' M' hM'
      have em : s'.2.2.2.1.length = s.2.2.2.1.length := by
        have := hE.1.2.1.2.1
        rw [e14] at this
        omega
      have ec : c' = c := by
        have := hE.1.2.2.2.2.2
        rw [e37] at this
        omega
      subst ec
      refine ⟨q', c', hE.qr (fun a j u1 u2 u3 u4 u5 u6 u7 u8 => ?_) ?_ ?_ (fun a j _ _ => g54 _ _ (by omega) (by omega) (by omega) (by omega))⟩
      · rw [em] at u4
        rw [g5 a j u3, hx a j (by omega) (by omega) (by omega), a2 a j (by omega) u3 u4 u5 u6 u7 u8, g2 a j (by omega)]
      · rw [xup2_n (by omega), xup2_s, e14]
      · rw [xup2_s, e37]
    · rw [g54 _ _ (by omega) (by omega) (by omega) (by omega), g1 _ _ (by omega) (by omega) (by omega)]
      show xup2 _ _ _ _ _ _ = _
      rw [xup2_n (by omega), xup2_s]
    · rw [g54 _ _ (by omega) (by omega) (by omega) (by omega), g1 _ _ (by omega) (by omega) (by omega)]
      show xup2 _ _ _ _ _ _ = _
      rw [xup2_n (by omega), xup2_n (by omega), xup2_s]
    · rw [g54 a j (by omega) (by omega) (by omega) q4, g1 a j (by omega) q2 (by omega), g0 a j (by omega)]
  cases hq : qQu t s.1 with
  | inl w =>
    rw [hq] at a3
    replace a3 : G3 0 7 = (w : Int) := a3
    refine fin (xwr (-1 - (w : Int))) G3 kp ?_ (fun _ _ _ _ _ => rfl) hk3 ?_
    · unfold g368_86
      rw [bd, if_neg (by omega), Option.bind_some, if_neg i1]
      show g368_107 f _ _ (xwr (-1 - G3 0 7)) G3 = _
      rw [a3]
    · unfold stQu
      rw [hq]
      exact ⟨rfl, h375, rfl⟩
  | inr r =>
    rw [hq] at a3
    obtain ⟨b1, c', b2, b3, b4, b5⟩ := a3
    have hok := k3.2.2.1
    obtain ⟨v, G4, kp', d1, d2, d3, d4⟩ := l_369 (f := f) (G := G3) (q := q) (s := s) (r := r) (R := M) (t := t) (kp := kp) (by omega) hq hte.tx hP.2.1.1 hP.1.2.1 b2 b3 b4 b5 (fun y hy => by
      have hm := hP.2.1.1
      rw [a2 _ _ (by omega) (by omega) (by omega) (by omega) (by omega) (by omega) (by omega), g2 _ _ (by omega)]; exact hPn y hy) (hTb.ge (fun a j _ _ => g3 _ _ (by omega) (by omega))) k3.2.2.2.2.1.1.1 h375 hk3
    refine fin v G4 kp' ?_ d2 d3 d4
    unfold g368_86
    rw [bd, if_pos b1, Option.bind_some, if_pos rfl, d1, Option.bind_some]
/-- answer() -/
def stAn (kp : Nat × List (List Int)) (i k t v : Int) : Prop := ((0 ≤ i ∧ i < kp.2.length) ∧ 0 ≤ k ∧ k < kp.1) ∧ t = 0 ∧ v = (kp.2.getD i.toNat []).getD k.toNat 0 ∨ ¬ ((0 ≤ i ∧ i < kp.2.length) ∧ 0 ≤ k ∧ k < kp.1) ∧ t = 1 ∧ v = 0
theorem l_370 {G : xG_} {i k : Int} (h : rKp G kp) : ∃ t v G', g370 f i k G = some (v, G') ∧ stAn kp i k t v ∧ G' 0 74 = t ∧ ∀ a j, ¬ (a = 0 ∧ j = 74) → G' a j = G a j := by
  obtain ⟨h1, h2, h3, h4, h5⟩ := h
  have e1 : xup2 G 0 74 0 0 105 = (kp.2.length : Int) := by rw [xup2_n (by omega)]; exact h1
  have e2 : xup2 G 0 74 0 0 106 = (kp.1 : Int) := by rw [xup2_n (by omega)]; exact h2
  have bad : g370_29 f (xup2 G 0 74 0) = some (0, xup2 (xup2 G 0 74 0) 0 74 1) := rfl
  have ng : ∀ {P : Prop}, ¬ P → g370 f i k G = g370_29 f (xup2 G 0 74 0) → (P ↔ ((0 ≤ i ∧ i < kp.2.length) ∧ 0 ≤ k ∧ k < kp.1)) → ∃ t v G', g370 f i k G = some (v, G') ∧ stAn kp i k t v ∧ G' 0 74 = t ∧ ∀ a j, ¬ (a = 0 ∧ j = 74) → G' a j = G a j := fun hP he hi => by
    rw [he, bad]
    exact ⟨1, 0, _, rfl, .inr ⟨fun q => hP (hi.mpr q), rfl, rfl⟩, xup2_s _ _ _ _, fun a j q => by rw [xup2_n (by omega), xup2_n (by omega)]⟩
  have ex : g370 f i k G = (if i < 0 then g370_29 f (xup2 G 0 74 0) else (if (kp.2.length : Int) ≤ i then g370_29 f (xup2 G 0 74 0) else (if k < 0 then g370_29 f (xup2 G 0 74 0) else (if k < (kp.1 : Int) then (if 0 ≤ (xwr ((xwr (8 * i)) + k)) ∧ (xwr ((xwr (8 * i)) + k)) < 4000 then some (xup2 G 0 74 0 275 (xwr ((xwr (8 * i)) + k)).toNat, xup2 G 0 74 0) else none) else g370_29 f (xup2 G 0 74 0))))) := by
    unfold g370 g370_48
    rw [Option.bind_some, e1, e2]
  by_cases c1 : i < 0
  · exact ng (P := 0 ≤ i ∧ i < kp.2.length ∧ 0 ≤ k ∧ k < kp.1) (by omega) (by rw [ex, if_pos c1]) (by omega)
  by_cases c2 : (kp.2.length : Int) ≤ i
  · exact ng (P := 0 ≤ i ∧ i < kp.2.length ∧ 0 ≤ k ∧ k < kp.1) (by omega) (by rw [ex, if_neg c1, if_pos c2]) (by omega)
  by_cases c3 : k < 0
  · exact ng (P := 0 ≤ i ∧ i < kp.2.length ∧ 0 ≤ k ∧ k < kp.1) (by omega) (by rw [ex, if_neg c1, if_neg c2, if_pos c3]) (by omega)
  by_cases c4 : k < (kp.1 : Int)
  · obtain ⟨i, rfl⟩ : ∃ x : Nat, i = (x : Int) := ⟨i.toNat, by omega⟩
    obtain ⟨k, rfl⟩ : ∃ x : Nat, k = (x : Int) := ⟨k.toNat, by omega⟩
    have e3 : xwr ((xwr (8 * (i : Int))) + (k : Int)) = ((8 * i + k : Nat) : Int) := by
      rw [xwr_g (8 * (i : Int)) (by omega) (by omega), xwr_g _ (by omega) (by omega)]; omega
    refine ⟨0, (kp.2.getD i []).getD k 0, xup2 G 0 74 0, ?_, .inl ⟨⟨⟨by omega, by omega⟩, by omega, by omega⟩, rfl, by rw [Int.toNat_natCast, Int.toNat_natCast]⟩, xup2_s _ _ _ _, fun a j q => xup2_n (by omega)⟩
    rw [ex, if_neg c1, if_neg c2, if_neg c3, if_pos c4, e3, if_pos (by omega), Int.toNat_natCast, xup2_n (by omega), (h5 i (by omega)).2 k (by omega)]
  · exact ng (P := 0 ≤ i ∧ i < kp.2.length ∧ 0 ≤ k ∧ k < kp.1) (by omega) (by rw [ex, if_neg c1, if_neg c2, if_neg c3, if_neg c4]) (by omega)
end
end
