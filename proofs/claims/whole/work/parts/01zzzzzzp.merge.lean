/-! merge: over all predicates -/
/-- rows with KEYS of their own -/
def ukM (s : pPg) (M : Nat → List pRw) : Prop := ∀ p, p < s.1.length → pIn s.2.1 (p : Int) = true → 0 < qKy s p → ∀ w ∈ M p, ∀ w' ∈ M p, w.1.take (qKy s p) = w'.1.take (qKy s p) → w.1 = w'.1
theorem wKf_of {s : pPg} {M : Nat → List pRw} {F : List pFc} {p : Nat} (hok : qOk s) (hM : qTb s M) (hF : qFa s M F) (hu : ukM s M) (hp : p < s.1.length) (hi : pIn s.2.1 (p : Int) = true) (hk : 0 < qKy s p) : wKf F (qNm s p) (qKy s p) (qN s p) := by
  have row : ∀ v, (qNm s p, v) ∈ F → ∃ w, w ∈ M p ∧ w.1 = v := fun v hv => by
    obtain ⟨p', a1, a2, w, a3, a4⟩ := (hF.2 _).mp hv
    have := nm_inj hok hp a1 a2
    subst this
    exact ⟨w, a3, a4⟩
  refine ⟨hF.1, fun v hv => fa_w hok hM hF hp hv rfl, fun v v' hv hv' e => ?_⟩
  obtain ⟨w, w1, w2⟩ := row v hv
  obtain ⟨w', w1', w2'⟩ := row v' hv'
  rw [← w2, ← w2'] at e ⊢
  exact hu p hp hi hk w w1 w' w1' e
/-- all CHANGES from Z to B -/
def dfA (s : pPg) (B Z : List pFc) : Nat → List pPe
  | 0 => []
  | p + 1 => dfA s B Z p ++ (if pIn s.2.1 (p : Int) = true then dfC (-1) (qNm s p) Z B ++ dfC 1 (qNm s p) B Z else [])
/-- from p on -/
def dfB (s : pPg) (B Z : List pFc) (p : Nat) : Nat → List pPe
  | 0 => []
  | d + 1 => (if pIn s.2.1 (p : Int) = true then dfC (-1) (qNm s p) Z B ++ dfC 1 (qNm s p) B Z else []) ++ dfB s B Z (p + 1) d
theorem dfB_A {s : pPg} {B Z : List pFc} : ∀ (d p : Nat), dfA s B Z p ++ dfB s B Z p d = dfA s B Z (p + d)
  | 0, p => List.append_nil _
  | d + 1, p => by
    show dfA s B Z p ++ (_ ++ dfB s B Z (p + 1) d) = dfA s B Z (p + (d + 1))
    rw [← List.append_assoc, show p + (d + 1) = (p + 1) + d by omega]
    exact dfB_A d (p + 1)
section
variable {f o h b q c : Nat} {s : pPg}
theorem l_326_220 {B Z : List pFc} (hf : 7000 < f) (hh : h < 4) (ho : o = 123 + 29 * h) (hb : isFb (b + 1)) (hbo : b + 4 < o ∨ o + 28 < b + 1) (hsB : B.Pairwise fLt) (hsZ : Z.Pairwise fLt) (hok : qOk s) : ∀ (d p fu x : Nat) (G : xG_) (ps : List pPe), p + d = s.1.length → d < fu → rFa G (b + 1) B → rFa G 253 Z → rPr G 2 q c s → rPe G o ps → ps.length + (dfB s B Z p d).length ≤ 400 → x + (dfB s B Z p d).length ≤ 60000 →
    ∃ G', g326_220 f fu o b (x : Int) (p : Int) G = some (((x + (dfB s B Z p d).length : Nat) : Int), G') ∧ rPe G' o (ps ++ dfB s B Z p d) ∧ xfq o G G' := by
  have hnp := hok.1.1
  intro d
  induction d with
  | zero =>
    intro p fu x G ps h1 h2 h3 h4 h5 h6 h7 h8
    obtain ⟨fu, rfl⟩ : ∃ t, fu = t + 1 := ⟨fu - 1, by omega⟩
    refine ⟨G, ?_, by show rPe G o (ps ++ []); rw [List.append_nil]; exact h6, fun _ _ _ _ _ _ _ => rfl⟩
    show g326_220b (g326_220 f fu) f _ _ _ _ _ = _
    unfold g326_220b
    rw [h5.1.1, if_pos (by omega)]
    rfl
  | succ d ih =>
    intro p fu x G ps h1 h2 h3 h4 h5 h6 h7 h8
    obtain ⟨fu, rfl⟩ : ∃ t, fu = t + 1 := ⟨fu - 1, by omega⟩
    have hp : p < s.1.length := by omega
    have ep : xwr ((p : Int) + 1) = ((p + 1 : Nat) : Int) := by rw [xwr_g _ (by omega) (by omega)]; omega
    have f1 := (h5.2.2.2.1 p (by omega)).1
    have e0 : g326_220 f (fu + 1) o b (x : Int) (p : Int) G = g326_220b (g326_220 f fu) f o b (x : Int) (p : Int) G := rfl
    have hd : dfB s B Z p (d + 1) = (if pIn s.2.1 (p : Int) = true then dfC (-1) (qNm s p) Z B ++ dfC 1 (qNm s p) B Z else []) ++ dfB s B Z (p + 1) d := rfl
    rw [hd] at h7 h8 ⊢
    by_cases ci : pIn s.2.1 (p : Int) = true
    · rw [if_pos ci] at h7 h8 ⊢
      rw [List.length_append] at h7 h8
      have hx : G (2 + 6) p = 1 := by rw [f1, ci]; rfl
      obtain ⟨G1, u1, u2, u3⟩ := l_328 (f := f) (o := o) (b := b) (p := p) (nm := qNm s p) (sh := 1) (ps := ps) (by omega) hh ho (.inr rfl) hb hbo hsB hsZ (by omega) h3 h4 (h5.1.2.2 p hp) h6 (fun _ => by omega)
      have u2' : rPe G1 o (ps ++ (dfC (-1) (qNm s p) Z B ++ dfC 1 (qNm s p) B Z)) := u2
      have ex : xwr ((x : Int) + ((dfC (-1) (qNm s p) Z B ++ dfC 1 (qNm s p) B Z).length : Int)) = ((x + (dfC (-1) (qNm s p) Z B ++ dfC 1 (qNm s p) B Z).length : Nat) : Int) := by rw [xwr_g _ (by omega) (by omega)]; omega
      have hxp : ps.length ≤ 400 := h6.2.1
      obtain ⟨G', v1, v2, v3⟩ := ih (p + 1) fu (x + (dfC (-1) (qNm s p) Z B ++ dfC 1 (qNm s p) B Z).length) G1 (ps ++ (dfC (-1) (qNm s p) Z B ++ dfC 1 (qNm s p) B Z)) (by omega) (by omega) (h3.q u3 (by omega)) (h4.q u3 (by omega)) (h5.ge (fun j => u3 _ _ (by omega) (by omega) (by omega) (by omega) (by omega)) (fun a j _ _ _ _ _ => u3 _ _ (by omega) (by omega) (by omega) (by omega) (by omega))) u2' (by rw [List.length_append]; omega) (by omega)
      refine ⟨G', ?_, by rw [← List.append_assoc]; exact v2, fun a j z1 z2 z3 z4 z5 => (v3 a j z1 z2 z3 z4 z5).trans (u3 a j z1 z2 z3 z4 z5)⟩
      rw [e0]
      unfold g326_220b g326_259
      rw [h5.1.1, if_neg (by omega), if_pos (by omega), Int.toNat_natCast, hx, if_neg (by decide), u1, Option.bind_some, ep]
      simp only [ex]
      rw [v1, List.length_append (as := dfC (-1) (qNm s p) Z B ++ dfC 1 (qNm s p) B Z)]
      rw [Nat.add_assoc]
    · rw [if_neg ci, List.nil_append] at h7 h8 ⊢
      have hx : G (2 + 6) p = 0 := by
        rw [f1]
        unfold b01
        rw [if_neg ci]
      obtain ⟨G', v1, v2, v3⟩ := ih (p + 1) fu x G ps (by omega) (by omega) h3 h4 h5 h6 h7 h8
      refine ⟨G', ?_, v2, v3⟩
      rw [e0]
      unfold g326_220b g326_259
      rw [h5.1.1, if_neg (by omega), if_pos (by omega), Int.toNat_natCast, hx, if_pos rfl, ep]
      exact v1
theorem dfB_len {B Z : List pFc} : ∀ (d p : Nat), (dfB s B Z p d).length ≤ d * (B.length + Z.length)
  | 0, p => Nat.zero_le _
  | d + 1, p => by
    have h1 := dfB_len (B := B) (Z := Z) d (p + 1)
    show ((if pIn s.2.1 (p : Int) = true then dfC (-1) (qNm s p) Z B ++ dfC 1 (qNm s p) B Z else []) ++ dfB s B Z (p + 1) d).length ≤ _
    rw [List.length_append, Nat.succ_mul]
    have h2 : (if pIn s.2.1 (p : Int) = true then dfC (-1) (qNm s p) Z B ++ dfC 1 (qNm s p) B Z else []).length ≤ B.length + Z.length := by
      split
      · rw [List.length_append]
        have := dfC_len (sg := -1) (nm := qNm s p) (F := Z) (F' := B)
        have := dfC_len (sg := 1) (nm := qNm s p) (F := B) (F' := Z)
        omega
      · exact Nat.zero_le _
    omega
theorem l_326_153 {B Z : List pFc} (hf : 7000 < f) (hh : h < 4) (ho : o = 123 + 29 * h) (hb : isFb (b + 1)) (hbo : b + 4 < o ∨ o + 28 < b + 1) (hsB : B.Pairwise fLt) (hsZ : Z.Pairwise fLt) (hok : qOk s) {ps : List pPe} : ∀ (d p fu x : Nat) (G : xG_), p + d = s.1.length → d < fu → rFa G (b + 1) B → rFa G 253 Z → rPr G 2 q c s → rPe G o ps → x + (dfB s B Z p d).length ≤ 60000 →
    ∃ G', g326_153 f fu o b (x : Int) (p : Int) G = (if ps.length + (x + (dfB s B Z p d).length) ≤ 400 then g326_220 f f o b 0 0 G' else some (-4, G')) ∧ rPe G' o ps ∧ xfq o G G' := by
  have hnp := hok.1.1
  intro d
  induction d with
  | zero =>
    intro p fu x G h1 h2 h3 h4 h5 h6 h8
    obtain ⟨fu, rfl⟩ : ∃ t, fu = t + 1 := ⟨fu - 1, by omega⟩
    have hl := h6.2.1
    have h8' : x ≤ 60000 := h8
    have ex : xwr ((ps.length : Int) + (x : Int)) = ((ps.length + x : Nat) : Int) := by rw [xwr_g _ (by omega) (by omega)]; omega
    refine ⟨G, ?_, h6, fun _ _ _ _ _ _ _ => rfl⟩
    show g326_153b (g326_153 f fu) f _ _ _ _ _ = (if ps.length + (x + 0) ≤ 400 then _ else _)
    unfold g326_153b
    rw [h5.1.1, if_pos (by omega), h6.1, ex]
    by_cases c : ps.length + x ≤ 400
    · rw [if_pos (by omega), if_pos (by omega)]
    · rw [if_neg (by omega), if_neg (by omega)]
  | succ d ih =>
    intro p fu x G h1 h2 h3 h4 h5 h6 h8
    obtain ⟨fu, rfl⟩ : ∃ t, fu = t + 1 := ⟨fu - 1, by omega⟩
    have hp : p < s.1.length := by omega
    have ep : xwr ((p : Int) + 1) = ((p + 1 : Nat) : Int) := by rw [xwr_g _ (by omega) (by omega)]; omega
    have f1 := (h5.2.2.2.1 p (by omega)).1
    have e0 : g326_153 f (fu + 1) o b (x : Int) (p : Int) G = g326_153b (g326_153 f fu) f o b (x : Int) (p : Int) G := rfl
    have hd : dfB s B Z p (d + 1) = (if pIn s.2.1 (p : Int) = true then dfC (-1) (qNm s p) Z B ++ dfC 1 (qNm s p) B Z else []) ++ dfB s B Z (p + 1) d := rfl
    rw [hd] at h8 ⊢
    by_cases ci : pIn s.2.1 (p : Int) = true
    · rw [if_pos ci] at h8 ⊢
      rw [List.length_append] at h8
      have hx : G (2 + 6) p = 1 := by rw [f1, ci]; rfl
      obtain ⟨G1, u1, u2, u3⟩ := l_328 (f := f) (o := o) (b := b) (p := p) (nm := qNm s p) (sh := 0) (ps := ps) (by omega) hh ho (.inl rfl) hb hbo hsB hsZ (by omega) h3 h4 (h5.1.2.2 p hp) h6 (fun z => absurd z (by decide))
      have u2' : rPe G1 o ps := by
        have : shP 0 (dfC (-1) (qNm s p) Z B ++ dfC 1 (qNm s p) B Z) = [] := rfl
        rw [this, List.append_nil] at u2
        exact u2
      have ex : xwr ((x : Int) + ((dfC (-1) (qNm s p) Z B ++ dfC 1 (qNm s p) B Z).length : Int)) = ((x + (dfC (-1) (qNm s p) Z B ++ dfC 1 (qNm s p) B Z).length : Nat) : Int) := by rw [xwr_g _ (by omega) (by omega)]; omega
      obtain ⟨G', v1, v2, v3⟩ := ih (p + 1) fu (x + (dfC (-1) (qNm s p) Z B ++ dfC 1 (qNm s p) B Z).length) G1 (by omega) (by omega) (h3.q u3 (by omega)) (h4.q u3 (by omega)) (h5.ge (fun j => u3 _ _ (by omega) (by omega) (by omega) (by omega) (by omega)) (fun a j _ _ _ _ _ => u3 _ _ (by omega) (by omega) (by omega) (by omega) (by omega))) u2' (by omega)
      refine ⟨G', ?_, v2, fun a j z1 z2 z3 z4 z5 => (v3 a j z1 z2 z3 z4 z5).trans (u3 a j z1 z2 z3 z4 z5)⟩
      rw [e0]
      unfold g326_153b g326_192
      rw [h5.1.1, if_neg (by omega), if_pos (by omega), Int.toNat_natCast, hx, if_neg (by decide), u1, Option.bind_some, ep]
      simp only [ex]
      rw [v1, List.length_append (as := dfC (-1) (qNm s p) Z B ++ dfC 1 (qNm s p) B Z), Nat.add_assoc x]
    · rw [if_neg ci, List.nil_append] at h8 ⊢
      have hx : G (2 + 6) p = 0 := by
        rw [f1]
        unfold b01
        rw [if_neg ci]
      obtain ⟨G', v1, v2, v3⟩ := ih (p + 1) fu x G (by omega) (by omega) h3 h4 h5 h6 h8
      refine ⟨G', ?_, v2, v3⟩
      rw [e0]
      unfold g326_153b g326_192
      rw [h5.1.1, if_neg (by omega), if_pos (by omega), Int.toNat_natCast, hx, if_pos rfl, ep]
      exact v1
/-- the first predicate with a KEY that meets, and the least such KEY -/
def isMp (s : pPg) (A B Z : List pFc) (p : Nat) (κ : List Int) : Prop := p < s.1.length ∧ pIn s.2.1 (p : Int) = true ∧ 0 < qKy s p ∧ isMt A B Z (qNm s p) (qKy s p) κ ∧ ∀ p', p' < p → pIn s.2.1 (p' : Int) = true → 0 < qKy s p' → ∀ κ', ¬ mtF A B Z (qNm s p') (qKy s p') κ'
theorem l_327_2 {G : xG_} {a : Nat} {A B Z : List pFc} (hf : 7000 < f) (ha : isFb (a + 1)) (hb : isFb (b + 1)) (hb2 : b + 1 < 243) (hok : qOk s) (hkl : ∀ p, p < s.1.length → pIn s.2.1 (p : Int) = true → qKy s p ≤ qN s p) (hA : rFa G (a + 1) A) (hB : rFa G (b + 1) B) (hZ : rFa G 253 Z) (hP : rPr G 2 q c s) (wA : ∀ p, p < s.1.length → pIn s.2.1 (p : Int) = true → 0 < qKy s p → wKf A (qNm s p) (qKy s p) (qN s p) ∧ wKf B (qNm s p) (qKy s p) (qN s p) ∧ wKf Z (qNm s p) (qKy s p) (qN s p)) : ∀ (d p fu : Nat), p + d = s.1.length → d < fu → (∀ p', p' < p → pIn s.2.1 (p' : Int) = true → 0 < qKy s p' → ∀ κ', ¬ mtF A B Z (qNm s p') (qKy s p') κ') →
    (g327_2 f fu a b (p : Int) G = some (0, G) ∧ ∀ p', p' < s.1.length → pIn s.2.1 (p' : Int) = true → 0 < qKy s p' → ∀ κ', ¬ mtF A B Z (qNm s p') (qKy s p') κ') ∨ ∃ x κ G', g327_2 f fu a b (p : Int) G = some (1, G') ∧ isMp s A B Z x κ ∧ rMt G' ((x : Int), κ) ∧ ∀ a j, ¬ (a = 0 ∧ (j = 82 ∨ j = 83)) → a ≠ 257 → G' a j = G a j := by
  have hnp := hok.1.1
  have hlB := hB.2.1
  have hlZ := hZ.2.1
  intro d
  induction d with
  | zero =>
    intro p fu h1 h2 h3
    obtain ⟨fu, rfl⟩ : ∃ t, fu = t + 1 := ⟨fu - 1, by omega⟩
    refine .inl ⟨?_, fun p' hp' => h3 p' (by omega)⟩
    show g327_2b (g327_2 f fu) f _ _ _ _ = _
    unfold g327_2b
    rw [hP.1.1, if_pos (by omega)]
  | succ d ih =>
    intro p fu h1 h2 h3
    obtain ⟨fu, rfl⟩ : ∃ t, fu = t + 1 := ⟨fu - 1, by omega⟩
    have hp : p < s.1.length := by omega
    have ep : xwr ((p : Int) + 1) = ((p + 1 : Nat) : Int) := by rw [xwr_g _ (by omega) (by omega)]; omega
    obtain ⟨f1, f2, f3, f4⟩ := hP.2.2.2.1 p (by omega)
    have e0 : g327_2 f (fu + 1) a b (p : Int) G = g327_2b (g327_2 f fu) f a b (p : Int) G := rfl
    have hk0 : 0 ≤ pKy s.2.1 (p : Int) := by
      unfold pKy
      cases hx : s.2.1.find? (fun x => decide (x.1 = (p : Int))) with
      | none => exact Int.le_refl 0
      | some x => exact (hok.1.2.2.1 x (List.mem_of_find?_eq_some hx)).2.2.2.2.1
    have hky : G (2 + 3) p = (qKy s p : Int) := by
      rw [f2]
      unfold qKy
      omega
    have skip : ¬ (pIn s.2.1 (p : Int) = true ∧ 0 < qKy s p) → g327_2 f (fu + 1) a b (p : Int) G = g327_2 f fu a b ((p + 1 : Nat) : Int) G → (g327_2 f (fu + 1) a b (p : Int) G = some (0, G) ∧ ∀ p', p' < s.1.length → pIn s.2.1 (p' : Int) = true → 0 < qKy s p' → ∀ κ', ¬ mtF A B Z (qNm s p') (qKy s p') κ') ∨ ∃ x κ G', g327_2 f (fu + 1) a b (p : Int) G = some (1, G') ∧ isMp s A B Z x κ ∧ rMt G' ((x : Int), κ) ∧ ∀ a j, ¬ (a = 0 ∧ (j = 82 ∨ j = 83)) → a ≠ 257 → G' a j = G a j := fun hc he => by
      rw [he]
      refine ih (p + 1) fu (by omega) (by omega) (fun p' hp' h4 h5 => ?_)
      by_cases cp : p' = p
      · rw [cp] at h4 h5; exact absurd ⟨h4, h5⟩ hc
      · exact h3 p' (by omega) h4 h5
    by_cases ci : pIn s.2.1 (p : Int) = true
    · have hx : G (2 + 6) p = 1 := by rw [f1, ci]; rfl
      by_cases ck : qKy s p = 0
      · refine skip (fun z => by omega) ?_
        rw [e0]
        unfold g327_2b g327_363
        rw [hP.1.1, if_neg (by omega), if_pos (by omega), Int.toNat_natCast, hx, if_neg (by decide), if_pos (by omega), hky, if_neg (fun z => z (by omega)), ep]
      · obtain ⟨w1, w2, w3⟩ := wA p hp ci (by omega)
        have hq4 : qN s p ≤ 4 := by have := (pNn_in hok.1 (p : Int)).2; unfold qN; omega
        have e1 : g327_2b (g327_2 f fu) f a b (p : Int) G = g327_46 (g327_2 f fu) f f a b (p : Int) ((0 : Nat) : Int) ((0 : Nat) : Int) G := by
          unfold g327_2b
          rw [hP.1.1, if_neg (by omega), if_pos (by omega), Int.toNat_natCast, hx, if_neg (by decide), if_pos (by omega), hky, if_pos (by omega)]
          rfl
        rw [e0, e1]
        rcases l_327_46 (f := f) (a := a) (b := b) (r2 := g327_2 f fu) (n := qN s p) hf ha hb hb2 hA hB hZ w1 w2 w3 (by omega) (hkl p hp ci) hq4 (by omega) (hP.1.2.2 p hp) hky (B.length + Z.length) 0 0 f (by omega) (Nat.zero_le _) (Nat.zero_le _) (by omega) (fun y hy => absurd hy (Nat.not_lt_zero y)) (fun y hy => absurd hy (Nat.not_lt_zero y)) with ⟨v1, v2⟩ | ⟨κ, G', v1, v2, v3, v4⟩
        · rw [v1]
          refine ih (p + 1) fu (by omega) (by omega) (fun p' hp' h4 h5 => ?_)
          by_cases cp : p' = p
          · rw [cp]; exact v2
          · exact h3 p' (by omega) h4 h5
        · exact .inr ⟨p, κ, G', v1, ⟨hp, ci, by omega, v2, h3⟩, v3, v4⟩
    · have hx : G (2 + 6) p = 0 := by
        rw [f1]
        unfold b01
        rw [if_neg ci]
      refine skip (fun z => ci z.1) ?_
      rw [e0]
      unfold g327_2b g327_363
      rw [hP.1.1, if_neg (by omega), if_pos (by omega), Int.toNat_natCast, hx, if_pos rfl, ep]
end
