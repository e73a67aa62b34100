/-! The house: lines, loading, going back -/
/-- what a line's moment holds is loaded -/
def rLd (G : xG_) (T : List (List Int)) (lns : Nat → sLn) : Prop := G 0 65 = G 0 64 → ∀ k : Nat, k < 4 → G 0 66 = (k : Int) → ∀ s M, isMo T (lMo (lns k)) s M → ∃ q c, rEn G q c s M
/-- the house; n bounds its numbers -/
def rHb (G : xG_) (T : List (List Int)) (m : Nat) (lns : Nat → sLn) (hr n : Nat) : Prop := rC G ∧ rTxs G T m ∧ G 0 62 = (hr : Int) ∧ hr < 4 ∧ (∀ k, k < 4 → ∃ s M, isMo T (lMo (lns k)) s M ∧ rLn G (123 + 29 * k) T (lns k) s M ∧ sOk T (lns k) n) ∧ (0 ≤ G 0 63 ∧ G 0 63 ≤ n) ∧ (0 ≤ G 0 64 ∧ G 0 64 ≤ n) ∧ G 0 65 ≤ G 0 64 ∧ rLd G T lns
theorem isMo_u {T : List (List Int)} {mo : sMo} {s s' : pPg} {M M' : Nat → List pRw} (h : isMo T mo s M) (h' : isMo T mo s' M') : s = s' ∧ ∀ p, p < s.1.length → M p = M' p := by
  obtain ⟨a1, a2, a3, a4, a5, a6, a7⟩ := h
  obtain ⟨b1, b2, b3, b4, b5, b6, b7⟩ := h'
  have e : s = s' := by
    rw [a2] at b2
    exact Sum.inr.inj b2
  subst e
  exact ⟨rfl, mo_det a3 a5 a6 b5 b6⟩
theorem rEn.ext {G : xG_} {q c : Nat} {s : pPg} {M M' : Nat → List pRw} (h : rEn G q c s M) (he : ∀ p, p < s.1.length → M p = M' p) : rEn G q c s M' := ⟨h.1, h.2.1, h.2.2.1, h.2.2.2.ext he⟩
section
variable {f o h : Nat}
theorem l_310 {G : xG_} {b k : Nat} {r : Int} (h3 : G o 3 = (b : Int)) (h2 : G o 2 = ((b + k : Nat) : Int)) : g310 f o r G = some (if (b : Int) ≤ r ∧ r ≤ ((b + k : Nat) : Int) then 1 else 0, G) := by
  unfold g310 g310_20 g310_21
  rw [h3, h2, if_pos (Or.inl rfl), if_pos (Or.inr rfl)]
  by_cases c1 : r < (b : Int)
  · rw [if_pos c1, if_neg (by omega)]
  · rw [if_neg c1]
    by_cases c2 : ((b + k : Nat) : Int) < r
    · rw [if_pos c2, if_neg (by omega)]
    · rw [if_neg c2, if_pos (by omega)]
/-- the forks of k behind r are lost -/
def fkL (k r : Int) (fk : Int × Int) : Int × Int := if fk.1 = k ∧ r < fk.2 then (-1, fk.2) else fk
theorem l_313 {k r : Int} (hf : 20 < f) : ∀ (d i fu : Nat) (G : xG_), i + d = 4 → d < fu →
    ∃ G', g313_2 f fu k r (i : Int) G = some G' ∧ (∀ x, i ≤ x → x < 4 → G' (123 + 29 * x) 35 = (fkL k r (G (123 + 29 * x) 35, G (123 + 29 * x) 36)).1) ∧ ∀ a j, ¬ (j = 35 ∧ ∃ x, i ≤ x ∧ x < 4 ∧ a = 123 + 29 * x) → G' a j = G a j := by
  intro d
  induction d with
  | zero =>
    intro i fu G h1 h2
    obtain ⟨fu, rfl⟩ : ∃ t, fu = t + 1 := ⟨fu - 1, by omega⟩
    refine ⟨G, ?_, fun x x1 x2 => by omega, fun _ _ _ => rfl⟩
    show g313_2b (g313_2 f fu) f _ _ _ _ = _
    unfold g313_2b
    rw [if_pos (by omega)]
  | succ d ih =>
    intro i fu G h1 h2
    obtain ⟨fu, rfl⟩ : ∃ t, fu = t + 1 := ⟨fu - 1, by omega⟩
    have e : xwr ((i : Int) + 1) = ((i + 1 : Nat) : Int) := by rw [xwr_g _ (by omega) (by omega)]; omega
    have hi : 0 ≤ (i : Int) ∧ (i : Int) < 4 := by omega
    have e0 : g313_2 f (fu + 1) k r (i : Int) G = g313_2b (g313_2 f fu) f k r (i : Int) G := rfl
    by_cases c : G (123 + 29 * i) 35 = k ∧ r < G (123 + 29 * i) 36
    · obtain ⟨G', u1, u2, u3⟩ := ih (i + 1) fu (xup2 G (123 + 29 * i) 35 (-1)) (by omega) (by omega)
      refine ⟨G', ?_, fun x x1 x2 => ?_, fun a j q => ?_⟩
      · rw [e0]
        unfold g313_2b g313_43
        rw [if_neg (by omega), if_pos hi, Int.toNat_natCast, if_neg (fun q => q c.1), if_pos hi, if_neg (by omega), if_pos hi, Option.bind_some, e]
        exact u1
      · by_cases d : x = i
        · rw [d, u3 _ _ (fun q => by obtain ⟨_, y, y1, y2, y3⟩ := q; omega), xup2_s]
          unfold fkL
          rw [if_pos c]
        · rw [u2 x (by omega) x2, xup2_n (by omega), xup2_n (by omega)]
      · rw [u3 a j (fun ⟨q1, y, y1, y2, y3⟩ => q ⟨q1, y, by omega, y2, y3⟩), xup2_n (fun ⟨q1, q2⟩ => q ⟨q2, i, Nat.le_refl i, by omega, q1⟩)]
    · obtain ⟨G', u1, u2, u3⟩ := ih (i + 1) fu G (by omega) (by omega)
      refine ⟨G', ?_, fun x x1 x2 => ?_, fun a j q => u3 a j (fun ⟨q1, y, y1, y2, y3⟩ => q ⟨q1, y, by omega, y2, y3⟩)⟩
      · rw [e0]
        unfold g313_2b g313_43
        rw [if_neg (by omega), if_pos hi, Int.toNat_natCast]
        by_cases c1 : G (123 + 29 * i) 35 = k
        · rw [if_neg (fun q => q c1), if_pos hi, if_pos (by omega), e]
          exact u1
        · rw [if_pos c1, e]
          exact u1
      · by_cases d : x = i
        · rw [d, u3 _ _ (fun q => by obtain ⟨_, y, y1, y2, y3⟩ := q; omega)]
          unfold fkL
          rw [if_neg c]
        · exact u2 x (by omega) x2
end
/-- a line back at round b + i -/
def lnB (ln : sLn) (i : Nat) : sLn := (ln.1, (ln.2.1.1, i, ln.2.1.2.2 - (hCat (hEg ln.1) (ln.2.1.1 + i) (ln.2.1.2.1 - i)).length), ((fun p => if (ln.1 (ln.2.1.1 + i)).1 = (lMo ln).1 then ln.2.2.1.1 p else 0), ln.2.2.1.2.1, false), ([], -1, fun _ => -1), ln.2.2.2.2)
def lnK (ln : sLn) (fk : Int × Int) : sLn := (ln.1, ln.2.1, ln.2.2.1, ln.2.2.2.1, fk)
theorem sOk.fc {T : List (List Int)} {ln : sLn} {n : Nat} (h : sOk T ln n) : hFc ln.1 ln.2.1.1 ln.2.1.2.1 := fun r r1 r2 => by
  obtain ⟨s, M, a1, a2, a3, a4, a5, a6, a7⟩ := h.1 r r1 r2
  exact ⟨a6.1, a6.len a3.1.1 a5.1.1⟩
theorem sOk.bk {T : List (List Int)} {ln : sLn} {n i : Nat} (h : sOk T ln n) (hi : i ≤ ln.2.1.2.1) : sOk T (lnB ln i) n := by
  obtain ⟨H, ⟨b, k, ed⟩, ⟨wk, cw, tb⟩, ⟨ps, nx, W⟩, fk⟩ := ln
  obtain ⟨a1, a2, ⟨a3, a3'⟩, a4, a5, a6, a7, a8, a9, a10⟩ := h
  simp only [] at a1 a2 a3 a3' a4 a5 a6 a7 a8 a9 a10 hi
  obtain ⟨k', rfl⟩ : ∃ k', k = i + k' := ⟨k - i, by omega⟩
  have hl : (hCat (hLg H) b (i + k')).length ≤ 8000 ∧ (hCat (hCg H) b (i + k')).length ≤ 100 ∧ (hCat (hEg H) b (i + k')).length ≤ 7 := by
    unfold tmOk at a4
    rw [lgK_self (hLg_r H), lgK_self (hCg_r H), lgK_self (hEg_r H)] at a4
    exact a4
  rw [hCat_split, hCat_split, hCat_split, List.length_append, List.length_append, List.length_append] at hl
  rw [hCat_split, List.length_append] at a5
  refine ⟨fun r r1 r2 => ?_, fun r r1 r2 => ?_, ⟨?_, ?_⟩, ?_, ?_, fun p hp => ?_, a7, fun e he => (by cases he), .inl rfl, fun _ => .inl rfl⟩
  · have r1' : b ≤ r := r1
    have r2' : r ≤ b + i := r2
    exact a1 r r1' (by omega)
  · have r1' : b < r := r1
    have r2' : r ≤ b + i := r2
    exact a2 r r1' (by omega)
  · show b + i ≤ n
    omega
  · show ed - (hCat (hEg H) (b + i) (i + k' - i)).length ≤ n
    omega
  · unfold tmOk
    show (lgK (b : Int) (hCat (hLg H) b i)).length ≤ 8000 ∧ (lgK (b : Int) (hCat (hCg H) b i)).length ≤ 100 ∧ (lgK (b : Int) (hCat (hEg H) b i)).length ≤ 7
    rw [lgK_self (hLg_r H), lgK_self (hCg_r H), lgK_self (hEg_r H)]
    omega
  · show (hCat (hEg H) b i).length ≤ ed - (hCat (hEg H) (b + i) (i + k' - i)).length
    rw [show i + k' - i = k' by omega]
    omega
  · show 0 ≤ (if (H (b + i)).1 = (H (b + (i + k'))).1 then wk p else 0) ∧ (if (H (b + i)).1 = (H (b + (i + k'))).1 then wk p else 0) ≤ (n : Int)
    have := a6 p hp
    split <;> omega
section
variable {f o h m n : Nat} {T : List (List Int)} {ln : sLn} {so : pPg} {Mo : Nat → List pRw}
/-- a line but for its CELLS' worth -/
def rLx (G : xG_) (o : Nat) (ln : sLn) : Prop :=
  rPa G o ln.1 ln.2.1.1 ln.2.1.2.1 ∧ (G o 1 = ((lMo ln).1 : Int) ∧ G o 2 = ((ln.2.1.1 + ln.2.1.2.1 : Nat) : Int) ∧ G o 3 = (ln.2.1.1 : Int) ∧ G o 4 = (ln.2.1.2.2 : Int)) ∧
  rFa G (o + 1) (lMo ln).2.1 ∧ (∀ c, c < 72 → G (o + 15) c = ((lMo ln).2.2.1 c : Int)) ∧
  (∀ p, p < 16 → G (o + 18) p = ln.2.2.1.1 p) ∧ (∀ c, c < 72 → G (o + 16) c = ln.2.2.1.2.1 c) ∧ (G o 27 = 0 ∧ ∀ p, p < 16 → G (o + 19) p = 0) ∧ ln.2.2.1.2.2 = false ∧
  (rPe G o ln.2.2.2.1.1 ∧ G o 34 = ln.2.2.2.1.2.1 ∧ ∀ c, c < 72 → G (o + 26) c = ln.2.2.2.1.2.2 c) ∧ G o 35 = ln.2.2.2.2.1 ∧ G o 36 = ln.2.2.2.2.2
theorem rLx.li {G : xG_} {s : pPg} {M : Nat → List pRw} (h : rLx G o ln) (hC : rCs G o (fSh (xOf T (lMo ln).2.2.1) s M)) : rLn G o T ln s M := by
  obtain ⟨a1, a2, a3, a4, a5, a6, a7, a8, a9, a10, a11⟩ := h
  exact ⟨a1, a2, a3, a4, hC, a5, a6, ⟨[], ⟨a7.1, Nat.zero_le _, fun i hi => absurd hi (Nat.not_lt_zero i)⟩, fun q => absurd (a8.symm.trans q) (by decide), fun _ => rfl⟩, ⟨fun q => absurd (a8.symm.trans q) (by decide), fun _ => a7.2⟩, a9, a10, a11⟩
theorem rLx.ge {G G' : xG_} (h : rLx G o ln) (hf : ∀ a j, o ≤ a → a ≤ o + 28 → a ≠ o + 17 → a ≠ o + 20 → G' a j = G a j) : rLx G' o ln := by
  obtain ⟨a1, ⟨a2, a2', a2'', a2'''⟩, a3, a4, a5, a6, a7, a8, ⟨a9, a9', a9''⟩, a10, a11⟩ := h
  refine ⟨⟨a1.1.ge (hf _ _ (by omega) (by omega) (by omega) (by omega)) (fun a j _ _ => hf _ _ (by omega) (by omega) (by omega) (by omega)), a1.2.1.ge (hf _ _ (by omega) (by omega) (by omega) (by omega)) (fun a j _ _ => hf _ _ (by omega) (by omega) (by omega) (by omega)), a1.2.2.1.ge (hf _ _ (by omega) (by omega) (by omega) (by omega)) (fun a j _ _ => hf _ _ (by omega) (by omega) (by omega) (by omega)), a1.2.2.2⟩, ⟨by rw [hf _ _ (by omega) (by omega) (by omega) (by omega)]; exact a2, by rw [hf _ _ (by omega) (by omega) (by omega) (by omega)]; exact a2', by rw [hf _ _ (by omega) (by omega) (by omega) (by omega)]; exact a2'', by rw [hf _ _ (by omega) (by omega) (by omega) (by omega)]; exact a2'''⟩, a3.ge (hf _ _ (by omega) (by omega) (by omega) (by omega)) (fun a j _ _ => hf _ _ (by omega) (by omega) (by omega) (by omega)), fun c hc => by rw [hf _ _ (by omega) (by omega) (by omega) (by omega)]; exact a4 c hc, fun c hc => by rw [hf _ _ (by omega) (by omega) (by omega) (by omega)]; exact a5 c hc, fun c hc => by rw [hf _ _ (by omega) (by omega) (by omega) (by omega)]; exact a6 c hc, ⟨by rw [hf _ _ (by omega) (by omega) (by omega) (by omega)]; exact a7.1, fun p hp => by rw [hf _ _ (by omega) (by omega) (by omega) (by omega)]; exact a7.2 p hp⟩, a8, ⟨a9.ge (hf _ _ (by omega) (by omega) (by omega) (by omega)) (fun a j _ _ => hf _ _ (by omega) (by omega) (by omega) (by omega)), by rw [hf _ _ (by omega) (by omega) (by omega) (by omega)]; exact a9', fun c hc => by rw [hf _ _ (by omega) (by omega) (by omega) (by omega)]; exact a9'' c hc⟩, by rw [hf _ _ (by omega) (by omega) (by omega) (by omega)]; exact a10, by rw [hf _ _ (by omega) (by omega) (by omega) (by omega)]; exact a11⟩
/-- become, over a line -/
theorem l_bc {G : xG_} {i : Nat} (hf : 12100 < f) (hn : n < 1000) (hh : h < 4) (ho : o = 123 + 29 * h) (hP : rPa G o ln.1 ln.2.1.1 ln.2.1.2.1) (hg : G o 1 = ((lMo ln).1 : Int) ∧ G o 3 = (ln.2.1.1 : Int) ∧ G o 4 = (ln.2.1.2.2 : Int)) (hFa : rFa G (o + 1) (lMo ln).2.1) (hK : ∀ c, c < 72 → G (o + 15) c = ((lMo ln).2.2.1 c : Int)) (hS : sOk T ln n) (hi : i ≤ ln.2.1.2.1) :
    ∃ G', g312 f o ((ln.2.1.1 + i : Nat) : Int) G = some G' ∧ xfB o G G' ∧ ((∀ p, p < 16 → G (o + 18) p = ln.2.2.1.1 p) → (∀ c, c < 72 → G (o + 16) c = ln.2.2.1.2.1 c) → G o 35 = ln.2.2.2.2.1 → G o 36 = ln.2.2.2.2.2 → rLx G' o (lnB ln i)) := by
  have hS' := hS
  obtain ⟨H, ⟨b, k, ed⟩, ⟨wk, cw, tb⟩, ⟨ps, nx, W⟩, fk⟩ := ln
  obtain ⟨a1, a2, ⟨a3, a3'⟩, a4, a5, a6, a7, a8, a9, a10⟩ := hS
  simp only [] at a1 a2 a3 a3' a4 a5 a6 a7 hi
  obtain ⟨k', rfl⟩ : ∃ k', k = i + k' := ⟨k - i, by omega⟩
  have hle : (hCat (hEg H) (b + i) k').length ≤ ed := by
    rw [hCat_split, List.length_append] at a5
    omega
  obtain ⟨G', u1, u2, u3, u4, u5, u6, u7, u8, u9, u10, u11, u12, u13, u14, u15⟩ := l_312 (f := f) (o := o) (H := H) (b := b) (i := i) (k := k') (ed := ed - (hCat (hEg H) (b + i) k').length) hf hh ho hP a2 hS'.fc hg.1 hFa hK (by rw [hg.2.2]; show (ed : Int) = _; omega) (by omega)
  refine ⟨G', u1, u15, fun w1 w2 w3 w4 => ?_⟩
  refine ⟨u2, ⟨u3, u4, by rw [u5]; exact hg.2.1, ?_⟩, u7, u8, fun p hp => ?_, fun c hc => ?_, ⟨u12, u13⟩, rfl, ⟨⟨u9, Nat.zero_le _, fun x hx => absurd hx (Nat.not_lt_zero x)⟩, u10, u11⟩, ?_, ?_⟩
  · rw [u6]
    show ((ed - (hCat (hEg H) (b + i) k').length : Nat) : Int) = ((ed - (hCat (hEg H) (b + i) (i + k' - i)).length : Nat) : Int)
    rw [show i + k' - i = k' by omega]
  · rw [u14 p hp]
    show (if (H (b + i)).1 = (H (b + (i + k'))).1 then G (o + 18) p else 0) = (if (H (b + i)).1 = (H (b + (i + k'))).1 then wk p else 0)
    rw [w1 p hp]
  · rw [u15 _ _ (by omega) (by omega) (by omega) (by omega) (by omega) (by omega) (by omega)]; exact w2 c hc
  · rw [u15 _ _ (by omega) (by omega) (by omega) (by omega) (by omega) (by omega) (by omega)]; exact w3
  · rw [u15 _ _ (by omega) (by omega) (by omega) (by omega) (by omega) (by omega) (by omega)]; exact w4
end
