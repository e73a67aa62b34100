/-! THE CLASS: the SHEET: settle() -/
theorem lnSt_of' {S S' : Nat → Nat × Nat × Nat} {ln : Nat} (h : lnSt S ln) (hS : ∀ a, ln ≤ a → a ≤ ln + 8 → S' a = S a) : lnSt S' ln := by
  obtain ⟨h0, h1, h2, h3, h4, h5, h6, h7, h8⟩ := h
  exact ⟨(hS _ (by omega) (by omega)).trans h0, (hS _ (by omega) (by omega)).trans h1, (hS _ (by omega) (by omega)).trans h2, (hS _ (by omega) (by omega)).trans h3, (hS _ (by omega) (by omega)).trans h4, (hS _ (by omega) (by omega)).trans h5, (hS _ (by omega) (by omega)).trans h6, (hS _ (by omega) (by omega)).trans h7, (hS _ (by omega) (by omega)).trans h8⟩
theorem lnPt_of' {G G' : xG_} {ln : Nat} (h : lnPt G ln) (hG : ∀ j, G' ln j = G ln j) : lnPt G' ln := by
  obtain ⟨h0, h1, h2, h3, h4, h5, h6, h7⟩ := h
  exact ⟨(hG _).trans h0, (hG _).trans h1, (hG _).trans h2, (hG _).trans h3, (hG _).trans h4, (hG _).trans h5, (hG _).trans h6, (hG _).trans h7⟩
theorem cTt.cg {S : Nat → Nat × Nat × Nat} {G : xG_} {tp : Nat} {X X' : fXs} {to to' : Nat → Nat} (h : cTt S G tp X to) (hX : ∀ c, c < 72 → X' c = X c) (ht : ∀ c, c < 72 → to' c = to c) : cTt S G tp X' to' := ⟨h.1, h.2.1, fun c hc => by rw [hX c hc, ht c hc]; exact h.2.2 c hc⟩
theorem tC9_c {G G' : xG_} {ln : Nat} : ∀ n, (∀ c, c < n → G' (ln + 7) c = G (ln + 7) c) → tC9 G' ln n = tC9 G ln n
  | 0, _ => rfl
  | n + 1, h => by
    show tC9 G' ln n + _ = tC9 G ln n + _
    rw [tC9_c n (fun c hc => h c (by omega)), h n (by omega)]
section
variable {f ah be ln tp ac A sl q rp nq : Nat} {S : Nat → Nat × Nat × Nat} {G : xG_} {s : pPg} {X X' Y : fXs} {to lt xr cr : Nat → Nat} {M : Nat → List pRw} {fr : Int} {ch : Nat} {C : fCs} {W : Nat → Int} {H : Nat → Prop}
theorem k_99s (hf : 700 < f) (hch : ch < 2147483648) (hs : cSs S) (hp : cPs G) (hA : 278 < A) (hb : S be = (1, 2, 8)) (hbA : 278 < be ∧ be < A) (hM : cMr S G A be q rp s xr cr M) (hP : cPgm S G q nq s) (hnq : nq ≤ be ∧ 226 < q ∧ (q + 1 < 243 ∨ 278 < q)) (hok : qOk s) (hoM : okM s M) (hl : ∀ p, p < s.1.length → (M p).length ≤ 100) (hrp : 278 < rp ∧ rp < A ∧ rp ≠ be) (hxr : ∀ p, p < s.1.length → (xr p + 2 < 216 ∨ 278 < xr p) ∧ (be < xr p ∨ xr p + 2 < be))
    (hT : cTt S G tp X to) (htp : tp < A ∧ tp ≠ be ∧ (tp < 243 ∨ 278 < tp)) (hto : ∀ c, c < 72 → to c + 2 < A ∧ (be < to c ∨ to c + 2 < be) ∧ (to c = 0 ∨ 278 < to c)) (h5 : G be 5 = 0) (h6 : G be 6 = fr)
    (ls : lnSt S ln) (lp : lnPt G ln) (hln : 242 < ln ∧ ln + 8 < 279) (ha : S ah = (1, 2, 8)) (haA : 226 < ah ∧ ah < A ∧ ah ≠ be) (h2 : G ah 2 = (tp : Int)) (h3 : G ah 3 = (ac : Int)) (hac : S ac = (2, 4, 72)) (hacA : 226 < ac ∧ ac < A ∧ ac ≠ be ∧ (ac < 243 ∨ 278 < ac)) (hC : okC C) (gC : ∀ x, x < 72 → G ac x = eC (C x))
    (hY : ∀ c, c < 72 → G (ln + 8) c = (lt c : Int) ∧ (lt c = 0 ∧ Y c = none ∨ 278 < lt c ∧ (lt c + 2 < A ∧ (be < lt c ∨ lt c + 2 < be)) ∧ ∃ e, Y c = some e ∧ cFm S G (lt c) e))
    (hX' : ∀ c, c < 72 → X' c = xN9 G ln X Y c) (hXg : ∀ c, 72 ≤ c → X' c = X c) (hoX : okX X') (hv : ∀ y, y < 72 → 0 ≤ G (ln + 3) y ∧ G (ln + 3) y ≤ 100000) (ht : ∀ y, ¬ G (ln + 7) y = 0 ↔ W y ≠ -1) (hH : ∀ p, p < s.1.length → (ch.testBit p = true ↔ H p))
    (hSm : ch = 0 → ¬ fr = 1 → ∀ x, x < 72 → fSh X s M x = C x) (hCn : (∀ c, c < 72 → X c = none) → ∀ x, x < 72 → C x = (0, 0)) (hH0 : (∀ p, ¬ H p) ∨ ¬ ch = 0) :
    ∃ (S' : Nat → Nat × Nat × Nat) (G' : xG_) (m' : Nat × Nat) (tp2 ac2 : Nat), c99 f 216 ah be ln (ch : Int) (S, G, (A, sl)) = some (S', G', m') ∧ (A ≤ m'.1 ∧ m'.1 ≤ A + 2 ∧ sl ≤ m'.2 ∧ m'.2 ≤ sl + 144) ∧ (∀ a, a < A → S' a = S a) ∧ (∀ a j, a < A → ¬ (a = be ∧ (j = 2 ∨ j = 3 ∨ j = 5)) → ¬ (a = 216 ∧ j ≤ 1) → ¬ (217 ≤ a ∧ a ≤ 219) → a ≠ ln + 3 → G' a j = G a j) ∧ G' be 5 = (tC9 G ln 72 : Int) ∧
      (G' be 2 = (tp2 : Int) ∧ (tp2 = tp ∨ A ≤ tp2 ∧ tp2 < m'.1) ∧ cTt S' G' tp2 X' (tN9 G ln to lt)) ∧ (G' be 3 = (ac2 : Int) ∧ (ac2 = ac ∨ A ≤ ac2 ∧ ac2 < m'.1) ∧ S' ac2 = (2, 4, 72) ∧ ∀ x, x < 72 → G' ac2 x = eC (fSh X' s M x)) ∧
      ∀ c, c < 72 → (qCw X' s (fr = 1) W C (fSh X' s M) H c → G' (ln + 3) c = G (ln + 3) c + 1) ∧ (¬ qCw X' s (fr = 1) W C (fSh X' s M) H c → G' (ln + 3) c = G (ln + 3) c) := by
  have hbb := ls
  obtain ⟨l0, _, _, l3, _, _, _, l7, l8⟩ := ls
  have lpp := lp
  obtain ⟨_, _, p6, _, _, _, p12, p13⟩ := lp
  have n2 : ∀ a j, ¬ (a = 216 ∧ j = 0) → ¬ (a = be ∧ (j = 2 ∨ j = 3)) → sG9 G be tp ac a j = G a j := fun a j y1 y2 => sG9_n y1 y2
  obtain ⟨g0, g2, g3⟩ := sG9_s (G := G) (be := be) (tp := tp) (ac := ac) (by omega)
  have hE : sE9 S (sG9 G be tp ac) A ah be ln tp := ⟨⟨hbA.2, haA.2.1, by omega, htp.1⟩, ⟨hb, ha, by rw [n2 _ _ (by omega) (by omega)]; exact h2, hT.1⟩, ⟨by omega, by omega, by omega, by omega, by omega⟩, ⟨l0, l7, l8, by rw [n2 _ _ (by omega) (by omega)]; exact p12, by rw [n2 _ _ (by omega) (by omega)]; exact p13⟩, fun y hy => by
      refine ⟨lt y, by rw [n2 _ _ (by omega) (by omega)]; exact (hY y hy).1, ?_⟩
      rcases (hY y hy).2 with w | ⟨w1, w2, e, w3, C0, F0, w4, _⟩
      · exact .inl w.1
      · exact .inr ⟨w4.1, by omega⟩, fun y hy => ⟨to y, by rw [n2 _ _ (by have := hT.2.1; omega) (by omega)]; exact (hT.2.2 y hy).1⟩⟩
  obtain ⟨fu, S1, G1, m1, n, u, e1, hI⟩ := k_99a (f := f) (ch := (ch : Int)) (sl := sl) (by omega) hs hb ha ⟨by omega, by omega, by omega⟩ h2 h3 h5 hE
  have fm : ∀ o e, o + 2 < A → (be < o ∨ o + 2 < be) → 278 < o → cFm S G o e → cFm S (sG9 G be tp ac) o e := fun o e y1 y2 y3 hF => hF.ge (fun _ _ _ => rfl) (fun a j z1 z2 => n2 _ _ (by omega) (by omega))
  have hT0 : cTt S (sG9 G be tp ac) tp X to := hT.lt htp.1 (fun c hc => (hto c hc).1) (fun _ _ => rfl) (fun c hc => n2 _ _ (by have := hT.2.1; omega) (by omega)) (fun c hc z a j y1 y2 => n2 _ _ (by omega) (by have := hto c hc; omega))
  have xe : ∀ c, c < 72 → sG9 G be tp ac (ln + 7) c = G (ln + 7) c := fun c hc => n2 _ _ (by omega) (by omega)
  obtain ⟨tp2, t1, t2, t3⟩ := tt_of hI (by omega) hT0 ⟨htp.1, htp.2.1⟩ (fun c hc => ⟨(hto c hc).1, (hto c hc).2.1⟩) (lt := lt) (Y := Y) (fun c hc _ => ⟨by rw [n2 _ _ (by omega) (by omega)]; exact (hY c hc).1, by
      rcases (hY c hc).2 with w | ⟨w1, w2, _⟩
      · omega
      · exact w2, by
      rcases (hY c hc).2 with w | ⟨w1, w2, e, w3, w4⟩
      · exact .inl w
      · exact .inr ⟨by omega, e, w3, fm _ _ w2.1 w2.2 w1 w4⟩⟩)
  have tN : ∀ c, c < 72 → tN9 (sG9 G be tp ac) ln to lt c = tN9 G ln to lt c := fun c hc => by unfold tN9; rw [xe c hc]
  have xN : ∀ c, c < 72 → X' c = xN9 (sG9 G be tp ac) ln X Y c := fun c hc => by rw [hX' c hc]; unfold xN9; rw [xe c hc]
  have hT1 : cTt S1 G1 tp2 X' (tN9 G ln to lt) := t3.cg xN (fun c hc => (tN c hc).symm)
  obtain ⟨i1, i2, ⟨i3, i4, i5⟩, i6, i7⟩ := hI
  rw [tC9_c 72 xe] at i5
  have hb1 : S1 be = (1, 2, 8) := by rw [i1 _ hbA.2]; exact hb
  have z1 : ∀ a j, a < A → ¬ (a = be ∧ (j = 2 ∨ j = 3 ∨ j = 5)) → ¬ (a = 216 ∧ j = 0) → G1 a j = G a j := fun a j y1 y2 y3 => by rw [i2 _ _ y1 (by omega), n2 _ _ y3 (by omega)]
  have h61 : G1 be 6 = fr := by rw [z1 _ _ hbA.2 (by omega) (by omega)]; exact h6
  have e2 := sw_99e (f := f) (ah := ah) (ln := ln) (u := u) (m := m1) (fu := fu) (ci := (ch : Int)) hb1 i3 h61
  have tto : ∀ c, c < 72 → tN9 G ln to lt c + 2 < A ∧ (be < tN9 G ln to lt c ∨ tN9 G ln to lt c + 2 < be) ∧ (tN9 G ln to lt c = 0 ∨ 278 < tN9 G ln to lt c) := fun c hc => by
    unfold tN9
    by_cases w : G (ln + 7) c = 0
    · rw [if_pos w]; exact hto c hc
    · rw [if_neg w]
      rcases (hY c hc).2 with w | ⟨w1, w2, _⟩
      · omega
      · exact ⟨w2.1, w2.2, .inr w1⟩
  have m1c : n = 0 ∧ m1 = (A, sl) ∧ tp2 = tp ∨ 0 < n ∧ m1 = (A + 1, sl + 72) ∧ tp2 = A := by
    rcases i6 with ⟨c1, c2, c3, _⟩ | ⟨c1, c2, _, c4, _⟩
    · rcases t2 with ⟨w1, _⟩ | ⟨_, w2⟩
      · exact .inl ⟨c1, c3, w1⟩
      · omega
    · rcases t2 with ⟨_, w2⟩ | ⟨w1, _⟩
      · omega
      · exact .inr ⟨c1, c4, w1⟩
  by_cases an : 0 < n ∨ (¬ u = 0 ∧ (¬ (ch : Int) = 0 ∨ fr = 1))
  · rw [if_pos an] at e2
    obtain ⟨A1, s1⟩ := m1
    have mb : A ≤ A1 ∧ A1 ≤ A + 1 ∧ sl ≤ s1 ∧ s1 ≤ sl + 72 ∧ tp2 < A1 ∧ tp2 ≠ be ∧ (tp2 < 243 ∨ 278 < tp2) ∧ (tp2 = tp ∨ A ≤ tp2 ∧ tp2 < A1) := by
      rcases m1c with ⟨_, w1, w2⟩ | ⟨_, w1, w2⟩
      · injection w1 with v1 v2
        omega
      · injection w1 with v1 v2
        omega
    clear i6 i7 t2 m1c hE
    have cs1 : cSs S1 := fun k hk => by rw [i1 _ (by omega)]; exact hs k hk
    have cp1 : cPs G1 := hp.ge (fun a j hz => z1 a j (by
      rcases hz with z | z | z | z | z | z | z | ⟨z, z1, z2, k, z3⟩ | z | z | z | ⟨k, z1, z2, z3⟩ <;> omega) (by
      rcases hz with z | z | z | z | z | z | z | ⟨z, z1, z2, k, z3⟩ | z | z | z | ⟨k, z1, z2, z3⟩ <;> omega) (by
      rcases hz with z | z | z | z | z | z | z | ⟨z, z1, z2, k, z3⟩ | z | z | z | ⟨k, z1, z2, z3⟩ <;> omega))
    have hM1 : cMr S1 G1 A1 be q rp s xr cr M := hM.ge2 mb.1 (fun a hz => i1 a (by
      rcases hz with z | z | ⟨p, hp, y1, y2⟩
      · omega
      · omega
      · have := (hM.2.2.2.2 p hp).2.1; omega)) (fun a j hz => by
      rcases hz with ⟨z, zj⟩ | z | ⟨p, hp, y1, y2⟩
      · exact z1 a j (by omega) (by omega) (by omega)
      · exact z1 a j (by omega) (by omega) (by omega)
      · have u1 := (hM.2.2.2.2 p hp).2.1
        have u2 := hxr p hp
        exact z1 a j (by omega) (by omega) (by omega))
    have hP1 : cPgm S1 G1 q nq s := hP.ge (Nat.le_refl _) (fun a y => i1 a (by omega)) (fun a j y1 y2 => z1 a j (by omega) (by omega) (by omega))
    have ls1 : lnSt S1 ln := lnSt_of' hbb (fun a y1 y2 => i1 a (by omega))
    have lp1 : lnPt G1 ln := lnPt_of' lpp (fun j => z1 _ _ (by omega) (by omega) (by omega))
    obtain ⟨S2, G2, b1, b2, b3, b4, b5, b6, b7⟩ := k_99z (f := f) (A := A1) (sl := s1) (X := X') (C := C) (W := W) (H := H) hf hch cs1 cp1 (by omega) hb1 ⟨hbA.1, by omega⟩ (by rw [i2 _ _ (by omega) (by omega)]; exact g0) hM1 hP1 hnq hok hoM hl ⟨hrp.1, by omega, hrp.2.2⟩ hxr t1 hT1 ⟨mb.2.2.2.2.1, mb.2.2.2.2.2.1, mb.2.2.2.2.2.2.1⟩ (fun c hc => by have := tto c hc; omega) hoX h61 ls1 lp1 hln (by rw [i1 _ haA.2.1]; exact ha) ⟨haA.1, by omega, haA.2.2⟩ (by rw [z1 _ _ haA.2.1 (by omega) (by omega)]; exact h3) (by rw [i1 _ hacA.2.1]; exact hac) ⟨hacA.1, by omega, hacA.2.2.1⟩ hC (fun x hx => by rw [z1 _ _ hacA.2.1 (by omega) (by omega)]; exact gC x hx) (fun y hy => by rw [z1 _ _ (by omega) (by omega) (by omega)]; exact hv y hy) (fun y => by rw [z1 _ _ (by omega) (by omega) (by omega)]; exact ht y) hH
    refine ⟨S2, G2, (A1 + 1, s1 + 72), tp2, A1, (e1.trans e2).trans b1, ⟨?_, ?_, ?_, ?_⟩, fun a y => by rw [b2 a (by omega), i1 a y], fun a j y1 y2 y3 y4 y5 => by rw [b4 a j (by omega) (by omega) (by omega) y4 y5, z1 a j y1 y2 (by omega)], ?_, ⟨?_, ?_, ?_⟩, ⟨b5, .inr ⟨mb.1, Nat.lt_succ_self _⟩, b3, b6⟩, fun c hc => ?_⟩
    · show A ≤ A1 + 1; omega
    · show A1 + 1 ≤ A + 2; omega
    · show sl ≤ s1 + 72; omega
    · show s1 + 72 ≤ sl + 144; omega
    · rw [b4 _ _ (by omega) (by omega) (by omega) (by omega) (by omega), i3, i5]
    · rw [b4 _ _ (by omega) (by omega) (by omega) (by omega) (by omega)]; exact t1
    · rcases mb.2.2.2.2.2.2.2 with w | w
      · exact .inl w
      · exact .inr ⟨w.1, Nat.lt_succ_of_lt w.2⟩
    · exact hT1.lt mb.2.2.2.2.1 (fun c hc => by have := tto c hc; omega) b2 (fun c hc => b4 _ _ mb.2.2.2.2.1 (by omega) (by have := hT1.2.1; omega) (by have := hT1.2.1; omega) (by omega)) (fun c hc w a j y1 y2 => by
        have := tto c hc
        exact b4 _ _ (by omega) (by omega) (by omega) (by omega) (by omega))
    · have := b7 c hc
      rw [z1 (ln + 3) c (by omega) (by omega) (by omega)] at this
      exact this
  · rw [if_neg an] at e2
    rcases m1c with ⟨w0, w1, w2⟩ | ⟨w0, _⟩
    · rw [w0] at i5 i3
      have nt : ∀ n, tC9 G ln n = 0 → ∀ c, c < n → G (ln + 7) c = 0 := by
        intro n
        induction n with
        | zero => intro _ c hc; omega
        | succ n ih =>
          intro h c hc
          have h' : tC9 G ln n + (if G (ln + 7) n = 0 then 0 else 1) = 0 := h
          by_cases q : G (ln + 7) n = 0
          · rw [if_pos q] at h'
            rcases (by omega : c = n ∨ c < n) with rfl | w
            · exact q
            · exact ih (by omega) c w
          · rw [if_neg q] at h'; omega
      have nt := nt 72 i5.symm
      have xx : X' = X := funext fun c => by
        by_cases q : c < 72
        · rw [hX' c q]; unfold xN9; rw [if_pos (nt c q)]
        · exact hXg c (by omega)
      have tt : ∀ c, c < 72 → tN9 G ln to lt c = to c := fun c hc => by unfold tN9; rw [if_pos (nt c hc)]
      have hW : ∀ c, c < 72 → W c = -1 := fun c hc => Classical.byContradiction fun z => (ht c).mpr z (nt c hc)
      have un : u = 0 → ∀ c, c < 72 → X c = none := fun hu c hc => by
        rcases i7 with ⟨k1, _⟩ | ⟨_, k2⟩
        · rw [hu] at k1; cases k1
        · have q0 : xT9 (sG9 G be tp ac) ln tp 72 c = 0 := Classical.byContradiction fun z => k2 ⟨c, hc, z⟩
          unfold xT9 at q0
          rw [if_neg (fun z => z.2 (by rw [xe c hc]; exact nt c hc)), (hT0.2.2 c hc).1] at q0
          rcases (hT0.2.2 c hc).2 with w | ⟨w, _⟩
          · exact w.2
          · omega
      have sm : ∀ x, x < 72 → fSh X s M x = C x := fun x hx => by
        by_cases hu : u = 0
        · rw [fSh_no (xx ▸ hoX) hx (un hu x hx), hCn (un hu) x hx]
        · by_cases hc : ch = 0
          · by_cases hfr : fr = 1
            · exact absurd (.inr ⟨hu, .inr hfr⟩) an
            · exact hSm hc hfr x hx
          · exact absurd (.inr ⟨hu, .inl (by omega)⟩) an
      have nc : ∀ c, c < 72 → ¬ qCw X' s (fr = 1) W C (fSh X' s M) H c := by
        by_cases hu : u = 0
        · exact fun c hc z => z.1 (by rw [xx]; exact un hu c hc)
        · have hc : ch = 0 := Classical.byContradiction fun z => an (.inr ⟨hu, .inl (by omega)⟩)
          have hfr : ¬ fr = 1 := fun z => an (.inr ⟨hu, .inr z⟩)
          refine cw_no hW (fun x hx => by rw [xx]; exact sm x hx) (fun p _ => ?_) (fun c hc _ => hfr)
          rcases hH0 with z | z
          · exact z p
          · exact absurd hc z
      refine ⟨S1, G1, m1, tp2, ac, e1.trans e2, ?_, i1, fun a j y1 y2 y3 y4 y5 => z1 a j y1 y2 (by omega), by rw [i3, i5], ⟨t1, .inl w2, hT1⟩, ⟨?_, .inl rfl, ?_, fun x hx => ?_⟩, fun c hc => ⟨fun z => absurd z (nc c hc), fun _ => z1 _ _ (by omega) (by omega) (by omega)⟩⟩
      · rw [w1]
        exact ⟨Nat.le_refl _, by show A ≤ A + 2; omega, Nat.le_refl _, by show sl ≤ sl + 144; omega⟩
      · rw [i2 _ _ hbA.2 (by omega)]; exact g3
      · rw [i1 _ hacA.2.1]; exact hac
      · rw [z1 _ _ hacA.2.1 (by omega) (by omega), gC x hx, xx, sm x hx]
    · exact absurd (.inl w0) an
end
