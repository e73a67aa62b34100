/-! back() -/
theorem rLn.ck {G : xG_} {o m : Nat} {T : List (List Int)} {ln : sLn} {s : pPg} {M : Nat → List pRw} (h : rLn G o T ln s M) (hC : rC G) (hT : rTxs G T m) (hM : isMo T (lMo ln) s M) : okC (cOf G o) := by
  obtain ⟨r1, r2, r6, r7, r8, r9⟩ := h
  obtain ⟨c1, c2, c3, c4, c5, c6, c7⟩ := hM
  have hX : okX (xOf T (lMo ln).2.2.1) := okX_of hC hT (c7.rKt r7)
  intro c hc
  have := fSh_ok (s := s) (M := M) hX (fun p hp r hr' => ((c5.1.1 p hp).2.2 r hr').2) (fun p hp => by have := (c5.1.1 p hp).1; omega) c hc
  unfold cOf
  rw [(r8 c hc).1, (r8 c hc).2]
  exact this
section
variable {f m n hr : Nat} {T : List (List Int)} {lns : Nat → sLn} {s : pPg} {M : Nat → List pRw}
theorem l_lv {G : xG_} (hf : 1000100 < f) (hh : hr < 4) (hC : rC G) (hT : rTxs G T m) (h62 : G 0 62 = (hr : Int)) (hx : rLx G (123 + 29 * hr) (lns hr)) (hok : okC (cOf G (123 + 29 * hr))) (hM : isMo T (lMo (lns hr)) s M) (hS : sOk T (lns hr) n) (ho : ∀ k, k < 4 → k ≠ hr → ∃ s M, isMo T (lMo (lns k)) s M ∧ rLn G (123 + 29 * k) T (lns k) s M ∧ sOk T (lns k) n) (h63 : 0 ≤ G 0 63 ∧ G 0 63 ≤ n) (h64 : 0 ≤ G 0 64 ∧ G 0 64 ≤ n) (h65 : G 0 65 < G 0 64) :
    ∃ G1 G2, g296 f G = some G1 ∧ g346 f (123 + 29 * hr) G1 = some G2 ∧ rHb G2 T m lns hr n ∧ ∀ a j, ¬ (a = 0 ∧ (j ≤ 11 ∨ 21 ≤ j ∧ j ≤ 27 ∨ 37 ≤ j ∧ j ≤ 61 ∨ 65 ≤ j ∧ j ≤ 66 ∨ 89 ≤ j ∧ j ≤ 91)) → ¬ (1 ≤ a ∧ a ≤ 36) → ¬ (107 ≤ a ∧ a ≤ 121) → ¬ (258 ≤ a ∧ a ≤ 270) → a ≠ 123 + 29 * hr + 17 → a ≠ 123 + 29 * hr + 20 → G2 a j = G a j := by
  have hob : 122 < 123 + 29 * hr ∧ 123 + 29 * hr < 211 := by omega
  obtain ⟨c1, c2, c3, c4, c5, c6, c7⟩ := hM
  obtain ⟨G1, q, c, k1, k2, k3, k4, k5⟩ := l_296 (f := f) (h := hr) (o := 123 + 29 * hr) hf hh rfl h62 hC hT c1 hx.2.1.1 c2 c3 c4 c5 hx.2.2.1 c6 (fun e1 _ => absurd e1 (by omega))
  have z1 : ∀ a j, ¬ (a = 0 ∧ (j ≤ 11 ∨ 21 ≤ j ∧ j ≤ 27 ∨ 37 ≤ j ∧ j ≤ 61 ∨ 65 ≤ j ∧ j ≤ 66)) → ¬ (1 ≤ a ∧ a ≤ 36) → ¬ (107 ≤ a ∧ a ≤ 121) → G1 a j = G a j := fun a j q1 q2 q3 => k2 a j (by omega) q2 (by omega)
  have hC1 : rC G1 := hC.ge (fun j _ _ => z1 _ _ (by omega) (by omega) (by omega))
  have hT1 : rTxs G1 T m := hT.ge (z1 _ _ (by omega) (by omega) (by omega)) (z1 _ _ (by omega) (by omega) (by omega)) (fun a j _ => z1 _ _ (by omega) (by omega) (by omega))
  have hK1 : rKt G1 (123 + 29 * hr) T (lMo (lns hr)).2.2.1 := c7.rKt (fun x hx' => by rw [z1 _ _ (by omega) (by omega) (by omega)]; exact hx.2.2.2.1 x hx')
  have hn2 : ∀ p, p < s.1.length → 0 ≤ pNn s.2.2.2.1 (p : Int) := fun p _ => (pNn_in c3.1 (p : Int)).1
  obtain ⟨G2, u1, u2, u3, u4, u5⟩ := l_346 (f := f) (G := G1) (by omega) hob (fun p hp r hr' => ((c5.1.1 p hp).2.2 r hr').2) hn2 ⟨hC1, hT1, hK1, k3.1.1, k3.2.1, k3.2.2.2⟩ (fun x hx' => by
    have := hok x hx'
    unfold cOf at this ⊢
    rw [z1 _ _ (by omega) (by omega) (by omega), z1 _ _ (by omega) (by omega) (by omega)]
    exact this)
  have z2 : ∀ a j, ¬ (a = 0 ∧ (j ≤ 11 ∨ 21 ≤ j ∧ j ≤ 27 ∨ 37 ≤ j ∧ j ≤ 61 ∨ 65 ≤ j ∧ j ≤ 66 ∨ 89 ≤ j ∧ j ≤ 91)) → ¬ (1 ≤ a ∧ a ≤ 36) → ¬ (107 ≤ a ∧ a ≤ 121) → ¬ (258 ≤ a ∧ a ≤ 270) → a ≠ 123 + 29 * hr + 17 → a ≠ 123 + 29 * hr + 20 → G2 a j = G a j := fun a j q1 q2 q3 q4 q5 q6 => by rw [u5 a j (by omega) (by omega) (by omega) q5 q6, z1 a j (by omega) q2 q3]
  have w2 : ∀ a j, ¬ (a = 0 ∧ (j ≤ 11 ∨ j = 21 ∨ j = 25 ∨ j = 42 ∨ 89 ≤ j ∧ j ≤ 91)) → a < 122 → G2 a j = G1 a j := fun a j q1 q2 => u5 a j q1 (by omega) (by omega) (by omega) (by omega)
  refine ⟨G1, G2, k1, u1, ?_, z2⟩
  refine rHb.of ⟨hC.ge (fun j _ _ => z2 _ _ (by omega) (by omega) (by omega) (by omega) (by omega) (by omega)), hT.ge (z2 _ _ (by omega) (by omega) (by omega) (by omega) (by omega) (by omega)) (z2 _ _ (by omega) (by omega) (by omega) (by omega) (by omega) (by omega)) (fun a j _ => z2 _ _ (by omega) (by omega) (by omega) (by omega) (by omega) (by omega)), fun k hk => ?_⟩ (by rw [z2 _ _ (by omega) (by omega) (by omega) (by omega) (by omega) (by omega)]; exact h62) hh (by rw [z2 _ _ (by omega) (by omega) (by omega) (by omega) (by omega) (by omega)]; exact h63) (by rw [z2 _ _ (by omega) (by omega) (by omega) (by omega) (by omega) (by omega)]; exact h64) (by rw [w2 _ _ (by omega) (by omega), w2 _ _ (by omega) (by omega), k4, z1 0 64 (by omega) (by omega) (by omega)]; exact Int.le_refl _) ?_
  · by_cases d : k = hr
    · rw [d]
      refine ⟨s, M, ⟨c1, c2, c3, c4, c5, c6, c7⟩, (hx.ge (fun a j _ _ q1 q2 => z2 _ _ (by omega) (by omega) (by omega) (by omega) q1 q2)).li u4, hS⟩
    · obtain ⟨s', M', b1, b2, b3⟩ := ho k hk d
      exact ⟨s', M', b1, b2.ge (fun a j _ _ => z2 _ _ (by omega) (by omega) (by omega) (by omega) (by omega) (by omega)), b3⟩
  · intro _ k hk e2 s' M' hM'
    rw [w2 _ _ (by omega) (by omega), k5] at e2
    have : hr = k := by omega
    subst this
    obtain ⟨e3, e4⟩ := isMo_u (⟨c1, c2, c3, c4, c5, c6, c7⟩ : isMo T (lMo (lns hr)) s M) hM'
    subst e3
    exact ⟨q, c, (k3.ge (fun a j _ _ => w2 _ _ (by omega) (by omega)) (fun a j _ _ => w2 _ _ (by omega) (by omega))).ext e4⟩
/-- the fork of a line that goes back -/
def fkB (r : Int) (fk : Int × Int) : Int × Int := if fk.1 ≠ -1 ∧ r < fk.2 then (-1, fk.2) else fk
/-- back() -/
def stBk (lns : Nat → sLn) (hr : Nat) (r v : Int) (lns' : Nat → sLn) : Prop :=
  (∃ i : Nat, i ≤ (lns hr).2.1.2.1 ∧ r = (((lns hr).2.1.1 + i : Nat) : Int) ∧ v = (((lns hr).2.1.2.1 - i : Nat) : Int) ∧ lns' = fun k => if k = hr then lnK (lnB (lns hr) i) (fkB r (fkL (hr : Int) r (lns hr).2.2.2.2)) else lnK (lns k) (fkL (hr : Int) r (lns k).2.2.2.2)) ∨
  (¬ (((lns hr).2.1.1 : Int) ≤ r ∧ r ≤ (((lns hr).2.1.1 + (lns hr).2.1.2.1 : Nat) : Int)) ∧ v = -1 ∧ lns' = lns)
theorem rLn.fk {G G' : xG_} {o : Nat} {ln : sLn} {fk : Int × Int} (h : rLn G o T ln s M) (hf : ∀ a j, o ≤ a → a ≤ o + 28 → ¬ (a = o ∧ j = 35) → G' a j = G a j) (h1 : G' o 35 = fk.1) (h2 : fk.2 = ln.2.2.2.2.2) : rLn G' o T (lnK ln fk) s M := by
  obtain ⟨r1, ⟨r2, r3, r4, r5⟩, r6, r7, r8, r9, r10, ⟨E, r11, r12⟩, r18, ⟨r13, r14, r15⟩, r16, r17⟩ := h
  have zz : ∀ a j, o ≤ a → a ≤ o + 28 → ¬ (a = o ∧ j = 35) → G' a j = G a j := hf
  refine ⟨⟨r1.1.ge (zz _ _ (by omega) (by omega) (by omega)) (fun a j _ _ => zz _ _ (by omega) (by omega) (by omega)), r1.2.1.ge (zz _ _ (by omega) (by omega) (by omega)) (fun a j _ _ => zz _ _ (by omega) (by omega) (by omega)), r1.2.2.1.ge (zz _ _ (by omega) (by omega) (by omega)) (fun a j _ _ => zz _ _ (by omega) (by omega) (by omega)), r1.2.2.2⟩, ⟨by rw [zz _ _ (by omega) (by omega) (by omega)]; exact r2, by rw [zz _ _ (by omega) (by omega) (by omega)]; exact r3, by rw [zz _ _ (by omega) (by omega) (by omega)]; exact r4, by rw [zz _ _ (by omega) (by omega) (by omega)]; exact r5⟩, r6.ge (zz _ _ (by omega) (by omega) (by omega)) (fun a j _ _ => zz _ _ (by omega) (by omega) (by omega)), fun c hc => by rw [zz _ _ (by omega) (by omega) (by omega)]; exact r7 c hc, fun c hc => by rw [zz _ _ (by omega) (by omega) (by omega), zz _ _ (by omega) (by omega) (by omega)]; exact r8 c hc, fun p hp => by rw [zz _ _ (by omega) (by omega) (by omega)]; exact r9 p hp, fun c hc => by rw [zz _ _ (by omega) (by omega) (by omega)]; exact r10 c hc, ⟨E, r11.ge (zz _ _ (by omega) (by omega) (by omega)) (fun a j _ _ => zz _ _ (by omega) (by omega) (by omega)), r12⟩, r18.ge (fun j => zz _ _ (by omega) (by omega) (by omega)), ⟨r13.ge (zz _ _ (by omega) (by omega) (by omega)) (fun a j _ _ => zz _ _ (by omega) (by omega) (by omega)), by rw [zz _ _ (by omega) (by omega) (by omega)]; exact r14, fun c hc => by rw [zz _ _ (by omega) (by omega) (by omega)]; exact r15 c hc⟩, h1, ?_⟩
  rw [zz _ _ (by omega) (by omega) (by omega)]
  exact r17.trans h2.symm
theorem rLx.fk {G G' : xG_} {o : Nat} {ln : sLn} {fk : Int × Int} (h : rLx G o ln) (hf : ∀ a j, o ≤ a → a ≤ o + 28 → ¬ (a = o ∧ j = 35) → G' a j = G a j) (h1 : G' o 35 = fk.1) (h2 : fk.2 = ln.2.2.2.2.2) : rLx G' o (lnK ln fk) := by
  obtain ⟨a1, ⟨a2, a2', a2'', a2'''⟩, a3, a4, a5, a6, a7, a8, ⟨a9, a9', a9''⟩, a10, a11⟩ := h
  refine ⟨⟨a1.1.ge (hf _ _ (by omega) (by omega) (by omega)) (fun a j _ _ => hf _ _ (by omega) (by omega) (by omega)), a1.2.1.ge (hf _ _ (by omega) (by omega) (by omega)) (fun a j _ _ => hf _ _ (by omega) (by omega) (by omega)), a1.2.2.1.ge (hf _ _ (by omega) (by omega) (by omega)) (fun a j _ _ => hf _ _ (by omega) (by omega) (by omega)), a1.2.2.2⟩, ⟨by rw [hf _ _ (by omega) (by omega) (by omega)]; exact a2, by rw [hf _ _ (by omega) (by omega) (by omega)]; exact a2', by rw [hf _ _ (by omega) (by omega) (by omega)]; exact a2'', by rw [hf _ _ (by omega) (by omega) (by omega)]; exact a2'''⟩, a3.ge (hf _ _ (by omega) (by omega) (by omega)) (fun a j _ _ => hf _ _ (by omega) (by omega) (by omega)), fun c hc => by rw [hf _ _ (by omega) (by omega) (by omega)]; exact a4 c hc, fun c hc => by rw [hf _ _ (by omega) (by omega) (by omega)]; exact a5 c hc, fun c hc => by rw [hf _ _ (by omega) (by omega) (by omega)]; exact a6 c hc, ⟨by rw [hf _ _ (by omega) (by omega) (by omega)]; exact a7.1, fun p hp => by rw [hf _ _ (by omega) (by omega) (by omega)]; exact a7.2 p hp⟩, a8, ⟨a9.ge (hf _ _ (by omega) (by omega) (by omega)) (fun a j _ _ => hf _ _ (by omega) (by omega) (by omega)), by rw [hf _ _ (by omega) (by omega) (by omega)]; exact a9', fun c hc => by rw [hf _ _ (by omega) (by omega) (by omega)]; exact a9'' c hc⟩, h1, ?_⟩
  rw [hf _ _ (by omega) (by omega) (by omega)]
  exact a11.trans h2.symm
theorem fkL_2 (k r : Int) (fk : Int × Int) : (fkL k r fk).2 = fk.2 := by
  unfold fkL
  split <;> rfl
theorem fkB_2 (r : Int) (fk : Int × Int) : (fkB r fk).2 = fk.2 := by
  unfold fkB
  split <;> rfl
theorem l_314 {G : xG_} {r : Int} (hf : 1000100 < f) (hn : n < 900) (h : rHb G T m lns hr n) :
    ∃ v G' lns', g314 f r G = some (v, G') ∧ stBk lns hr r v lns' ∧ rHb G' T m lns' hr (n + 1) ∧ G' 0 74 = 0 ∧ G' 0 63 = G 0 63 ∧ xfHo G G' := by
  have h0 := h.u74 (v := 0)
  obtain ⟨a1, a2, a3, a4, a5, a6, a7, a8, a9⟩ := h
  obtain ⟨s0, M0, b1, b2, b3⟩ := a5 hr a4
  let o := 123 + 29 * hr
  have hoo : o = 123 + 29 * hr := rfl
  have hob : 122 < o ∧ o < 211 := by show 122 < 123 + 29 * hr ∧ 123 + 29 * hr < 211; omega
  let G1 := xup2 G 0 74 0
  have z1 : ∀ a j, ¬ (a = 0 ∧ j = 74) → G1 a j = G a j := fun a j q => xup2_n (by omega)
  have hpast := l_310 (f := f) (o := o) (G := G1) (b := (lns hr).2.1.1) (k := (lns hr).2.1.2.1) (r := r) (by rw [z1 _ _ (by omega)]; exact b2.2.1.2.2.1) (by rw [z1 _ _ (by omega)]; exact b2.2.1.2.1)
  have e0 : g314 f r G = ((g310 f o r G1).bind fun R120 => (if ¬ (R120.1) = 0 then ((g312 f o r R120.2).bind fun R126 => ((g313 f (R126 (0) 62) r R126).bind fun R131 => (if (R131 o 35) = (-1) then g314_69 f o (xwr ((R120.2 o 2) - r)) R131 else (if (R131 o 36) ≤ r then g314_69 f o (xwr ((R120.2 o 2) - r)) R131 else ((some (xup2 R131 o 35 (-1))).bind fun G141 => g314_69 f o (xwr ((R120.2 o 2) - r)) G141))))) else (some (-1, R120.2)))) := by
    unfold g314
    rw [Option.bind_some, xup2_n (by omega), a3, if_pos (by omega), Int.toNat_natCast]
  rw [e0, hpast, Option.bind_some]
  by_cases c : ((lns hr).2.1.1 : Int) ≤ r ∧ r ≤ (((lns hr).2.1.1 + (lns hr).2.1.2.1 : Nat) : Int)
  · obtain ⟨i, hi⟩ : ∃ i : Nat, r = (((lns hr).2.1.1 + i : Nat) : Int) := ⟨(r - (lns hr).2.1.1).toNat, by omega⟩
    have hik : i ≤ (lns hr).2.1.2.1 := by omega
    have n1 : ¬ ((if ((lns hr).2.1.1 : Int) ≤ r ∧ r ≤ (((lns hr).2.1.1 + (lns hr).2.1.2.1 : Nat) : Int) then (1 : Int) else 0, G1) : Int × xG_).1 = 0 := by
      rw [if_pos c]; show ¬ (1 : Int) = 0; decide
    rw [if_pos n1]
    simp only []
    obtain ⟨G2, u1, u2, u3⟩ := l_bc (f := f) (o := o) (h := hr) (G := G1) (ln := lns hr) (T := T) (n := n) (i := i) (by omega) (by omega) a4 rfl (b2.1.ge' (fun a j _ _ => z1 _ _ (by omega))) ⟨by rw [z1 _ _ (by omega)]; exact b2.2.1.1, by rw [z1 _ _ (by omega)]; exact b2.2.1.2.2.1, by rw [z1 _ _ (by omega)]; exact b2.2.1.2.2.2⟩ (b2.2.2.1.ge (z1 _ _ (by omega)) (fun a j _ _ => z1 _ _ (by omega))) (fun x hx => by rw [z1 _ _ (by omega)]; exact b2.2.2.2.1 x hx) b3 hik
    have u4 := u3 (fun p hp => by rw [z1 _ _ (by omega)]; exact b2.2.2.2.2.2.1 p hp) (fun x hx => by rw [z1 _ _ (by omega)]; exact b2.2.2.2.2.2.2.1 x hx) (by rw [z1 _ _ (by omega)]; exact b2.2.2.2.2.2.2.2.2.2.2.1) (by rw [z1 _ _ (by omega)]; exact b2.2.2.2.2.2.2.2.2.2.2.2)
    have z2 : ∀ a j, ¬ (a = 0 ∧ j = 74) → ¬ (253 ≤ a ∧ a ≤ 256) → ¬ (o ≤ a ∧ a ≤ o + 28) → G2 a j = G a j := fun a j q1 q2 q3 => by rw [u2 a j q2 (by omega) (by omega) (by omega) (by omega) (by omega) (by omega), z1 a j q1]
    obtain ⟨G3, v1, v2, v3⟩ := l_313 (f := f) (k := (hr : Int)) (r := r) (by omega) 4 0 f G2 rfl (by omega)
    have v1' : g313 f (G2 0 62) r G2 = some G3 := by
      rw [z2 _ _ (by omega) (by omega) (by omega), a3]
      exact v1
    rw [hi, u1, Option.bind_some, ← hi, v1', Option.bind_some]
    -- the line's own fork
    have f35 : G3 o 35 = (fkL (hr : Int) r (lns hr).2.2.2.2).1 := by
      have := v2 hr (Nat.zero_le _) a4
      rw [this, u4.2.2.2.2.2.2.2.2.2.1, u4.2.2.2.2.2.2.2.2.2.2]
      rfl
    have v3' : ∀ a j, ¬ (j = 35 ∧ 123 ≤ a ∧ a ≤ 210) → G3 a j = G2 a j := fun a j q => v3 a j (fun ⟨q1, x, x1, x2, x3⟩ => q ⟨q1, by omega, by omega⟩)
    have f36 : G3 o 36 = (lns hr).2.2.2.2.2 := by
      rw [v3' _ _ (by omega)]
      exact u4.2.2.2.2.2.2.2.2.2.2
    obtain ⟨G4, w1, w2, w3⟩ : ∃ G4, (if (G3 o 35) = (-1) then g314_69 f o (xwr ((G1 o 2) - r)) G3 else (if (G3 o 36) ≤ r then g314_69 f o (xwr ((G1 o 2) - r)) G3 else ((some (xup2 G3 o 35 (-1))).bind fun G141 => g314_69 f o (xwr ((G1 o 2) - r)) G141))) = g314_69 f o (xwr ((G1 o 2) - r)) G4 ∧ G4 o 35 = (fkB r (fkL (hr : Int) r (lns hr).2.2.2.2)).1 ∧ ∀ a j, ¬ (a = o ∧ j = 35) → G4 a j = G3 a j := by
      rw [f35, f36]
      unfold fkB
      by_cases d1 : (fkL (hr : Int) r (lns hr).2.2.2.2).1 = -1
      · rw [if_pos d1, if_neg (fun q => q.1 d1)]
        exact ⟨G3, rfl, f35, fun _ _ _ => rfl⟩
      · rw [if_neg d1, fkL_2]
        by_cases d2 : (lns hr).2.2.2.2.2 ≤ r
        · rw [if_pos d2, if_neg (fun q => absurd q.2 (by omega))]
          exact ⟨G3, rfl, f35, fun _ _ _ => rfl⟩
        · rw [if_neg d2, if_pos ⟨d1, by omega⟩, Option.bind_some]
          exact ⟨_, rfl, xup2_s _ _ _ _, fun a j q => xup2_n (by omega)⟩
    rw [w1]
    have z4 : ∀ a j, ¬ (j = 35 ∧ 123 ≤ a ∧ a ≤ 210) → G4 a j = G2 a j := fun a j q => by rw [w3 a j (by omega), v3' a j q]
    have e64 : xwr (G4 0 64 + 1) = G 0 64 + 1 := by
      rw [z4 _ _ (by omega), z2 _ _ (by omega) (by omega) (by omega)]
      exact xwr_g _ (by omega) (by omega)
    let G5 := xup2 G4 0 64 (G 0 64 + 1)
    have z5 : ∀ a j, ¬ (a = 0 ∧ j = 64) → G5 a j = G4 a j := fun a j q => xup2_n (by omega)
    have zz : ∀ a j, ¬ (a = 0 ∧ (j = 64 ∨ j = 74)) → ¬ (253 ≤ a ∧ a ≤ 256) → ¬ (o ≤ a ∧ a ≤ o + 28) → ¬ (j = 35 ∧ 123 ≤ a ∧ a ≤ 210) → G5 a j = G a j := fun a j q1 q2 q3 q4 => by rw [z5 a j (by omega), z4 a j q4, z2 a j (by omega) q2 q3]
    let lns' : Nat → sLn := fun k => if k = hr then lnK (lnB (lns hr) i) (fkB r (fkL (hr : Int) r (lns hr).2.2.2.2)) else lnK (lns k) (fkL (hr : Int) r (lns k).2.2.2.2)
    have el : lns' hr = lnK (lnB (lns hr) i) (fkB r (fkL (hr : Int) r (lns hr).2.2.2.2)) := if_pos rfl
    obtain ⟨s, M, hsM⟩ := b3.1 ((lns hr).2.1.1 + i) (by omega) (by omega)
    have hsb := (b3.bk hik).mo (Nat.le_succ n)
    obtain ⟨G6, G7, t1, t2, t3, t4⟩ := l_lv (f := f) (hr := hr) (G := G5) (lns := lns') (T := T) (m := m) (n := n + 1) (s := s) (M := M) hf a4 (a1.ge (fun j _ _ => zz _ _ (by omega) (by omega) (by omega) (by omega))) (a2.ge (zz _ _ (by omega) (by omega) (by omega) (by omega)) (zz _ _ (by omega) (by omega) (by omega) (by omega)) (fun a j _ => zz _ _ (by omega) (by omega) (by omega) (by omega))) (by rw [zz _ _ (by omega) (by omega) (by omega) (by omega)]; exact a3) (by
      rw [el]
      refine rLx.fk u4 (fun a j q1 q2 q3 => ?_) ?_ ?_
      · rw [z5 _ _ (by omega), w3 _ _ (by omega)]
        exact v3 _ _ (fun ⟨y1, x, x1, x2, x3⟩ => q3 ⟨by have : o = 123 + 29 * hr := rfl; omega, y1⟩)
      · rw [z5 _ _ (by omega)]; exact w2
      · rw [fkB_2, fkL_2]; rfl) (fun x hx => by
      have := b2.ck a1 a2 b1 x hx
      unfold cOf at this ⊢
      have y : ∀ a, a = o + 17 ∨ a = o + 20 → G5 a x = G a x := fun a q => by
        rw [z5 _ _ (by omega), w3 _ _ (by omega), v3 _ _ (fun ⟨y1, x', x1, x2, x3⟩ => by omega), u2 _ _ (by omega) (by omega) (by omega) (by omega) (by omega) (by omega) (by omega), z1 _ _ (by omega)]
      rw [show 123 + 29 * hr = o from rfl, y _ (.inl rfl), y _ (.inr rfl)]
      exact this) (by rw [el]; exact hsM) (by
      rw [el]
      exact hsb) (fun k hk hne => by
      obtain ⟨s', M', x1, x2, x3⟩ := a5 k hk
      have ek : lns' k = lnK (lns k) (fkL (hr : Int) r (lns k).2.2.2.2) := if_neg hne
      rw [ek]
      refine ⟨s', M', x1, ?_, x3.mo (Nat.le_succ n)⟩
      refine rLn.fk x2 (fun a j q1 q2 q3 => ?_) ?_ (fkL_2 _ _ _)
      · have hk2 : ¬ (o ≤ a ∧ a ≤ o + 28) := by
          show ¬ (123 + 29 * hr ≤ a ∧ a ≤ 123 + 29 * hr + 28)
          omega
        rw [z5 _ _ (by omega), w3 _ _ (by omega), v3 _ _ (fun ⟨y1, x, y2, y3, y4⟩ => q3 ⟨by omega, y1⟩), z2 _ _ (by omega) (by omega) hk2]
      · have hne2 : 123 + 29 * k ≠ o := by show 123 + 29 * k ≠ 123 + 29 * hr; omega
        have hk2 : ¬ (o ≤ 123 + 29 * k ∧ 123 + 29 * k ≤ o + 28) := by
          show ¬ (123 + 29 * hr ≤ 123 + 29 * k ∧ 123 + 29 * k ≤ 123 + 29 * hr + 28)
          omega
        rw [z5 _ _ (by omega), w3 _ _ (by omega), v2 k (Nat.zero_le k) hk, z2 _ _ (by omega) (by omega) hk2, z2 _ _ (by omega) (by omega) hk2, x2.2.2.2.2.2.2.2.2.2.2.1, x2.2.2.2.2.2.2.2.2.2.2.2]
        ) (by rw [zz _ _ (by omega) (by omega) (by omega) (by omega)]; omega) (by rw [show G5 0 64 = G 0 64 + 1 from xup2_s _ _ _ _]; omega) (by rw [show G5 0 64 = G 0 64 + 1 from xup2_s _ _ _ _, zz _ _ (by omega) (by omega) (by omega) (by omega)]; omega)
    have e2 : xwr (G1 o 2 - r) = (((lns hr).2.1.2.1 - i : Nat) : Int) := by
      have hb3 := b3.2.2.1.1
      rw [z1 _ _ (by omega), b2.2.1.2.1, hi, xwr_g _ (by omega) (by omega)]
      omega
    refine ⟨_, G7, lns', ?_, .inl ⟨i, hik, hi, rfl, rfl⟩, t3, ?_, ?_, fun a j q1 q2 q3 q4 q5 => ?_⟩
    · unfold g314_69
      rw [e64, Option.bind_some]
      show Option.bind (g296 f G5) _ = _
      rw [t1, Option.bind_some, t2, Option.bind_some, e2]
    · rw [t4 _ _ (by omega) (by omega) (by omega) (by omega) (by omega) (by omega), z5 _ _ (by omega), z4 _ _ (by omega), u2 _ _ (by omega) (by omega) (by omega) (by omega) (by omega) (by omega) (by omega)]
      exact xup2_s _ _ _ _
    · rw [t4 _ _ (by omega) (by omega) (by omega) (by omega) (by omega) (by omega), zz _ _ (by omega) (by omega) (by omega) (by omega)]
    · rw [t4 _ _ (by omega) (by omega) (by omega) (by omega) (by omega) (by omega), zz _ _ (by omega) (by omega) (by omega) (by omega)]
  · have n1 : ¬ ¬ ((if ((lns hr).2.1.1 : Int) ≤ r ∧ r ≤ (((lns hr).2.1.1 + (lns hr).2.1.2.1 : Nat) : Int) then (1 : Int) else 0, G1) : Int × xG_).1 = 0 := by
      rw [if_neg c]; exact fun q => q rfl
    rw [if_neg n1]
    exact ⟨-1, G1, lns, rfl, .inr ⟨c, rfl, rfl⟩, h0.mo (Nat.le_succ n), xup2_s _ _ _ _, z1 _ _ (by omega), fun a j q1 q2 q3 q4 q5 => z1 _ _ (by omega)⟩
end
