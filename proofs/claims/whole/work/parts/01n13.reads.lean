section
/-! findReadings: what a CELL's FORMULA reads -/
/-- what is known of c's readings alone has changed -/
def xfR (c : Nat) (G G' : xG_) : Prop := ∀ a j, ¬ (263 ≤ a ∧ a ≤ 266 ∧ j = c) → G' a j = G a j
theorem xfR.tr {c : Nat} {G G1 G2 : xG_} (h1 : xfR c G G1) (h2 : xfR c G1 G2) : xfR c G G2 := fun a j q => (h2 a j q).trans (h1 a j q)
/-- c's readings: CELLS, predicates, whether a NAME is read -/
def rRo (G : xG_) (c m w : Nat) (b : Bool) : Prop := rM8 (G 263 c) (G 264 c) m ∧ G 265 c = (w : Int) ∧ w < 2 ^ 16 ∧ G 266 c = b01 b
section
variable {f c : Nat} {s : pPg} {N : List pNd}
theorem l_344_105 {i : Nat} {a b : Int} {r48 : Int → Int → xG_ → Option xG_} (hc : c < 72) (hi : i < 140) (ha : 0 ≤ a ∧ a < 72) (hb : 0 ≤ b ∧ b < 72) {m w : Nat} {bb : Bool} : ∀ (k x fu : Nat) (G : xG_), x + k = 72 → k < fu → G 259 i = a → G 260 i = b → rRo G c (m ||| nBx a b x) w bb →
    ∃ G', g344_105 r48 f fu (c : Int) (i : Int) (x : Int) G = g344_147 r48 f (c : Int) (i : Int) G' ∧ rRo G' c (m ||| nBx a b 72) w bb ∧ xfR c G G' := by
  intro k
  induction k with
  | zero =>
    intro x fu G h1 h2 h3 h4 h5
    obtain ⟨fu, rfl⟩ : ∃ t, fu = t + 1 := ⟨fu - 1, by omega⟩
    have hx : x = 72 := by omega
    subst hx
    refine ⟨G, ?_, h5, fun _ _ _ => rfl⟩
    show g344_105b r48 (g344_105 r48 f fu) f _ _ _ _ = _
    unfold g344_105b
    rw [if_pos (by omega)]
  | succ k ih =>
    intro x fu G h1 h2 h3 h4 h5
    obtain ⟨fu, rfl⟩ : ∃ t, fu = t + 1 := ⟨fu - 1, by omega⟩
    have e : xwr ((x : Int) + 1) = ((x + 1 : Nat) : Int) := by rw [xwr_g _ (by omega) (by omega)]; omega
    have hi2 : 0 ≤ (i : Int) ∧ (i : Int) < 140 := by omega
    have e0 : g344_105 r48 f (fu + 1) (c : Int) (i : Int) (x : Int) G = g344_105b r48 (g344_105 r48 f fu) f (c : Int) (i : Int) (x : Int) G := rfl
    by_cases d : fIn x a b
    · have s1 : ¬ ((if fIn x a b then (1 : Int) else 0, G) : Int × xG_).1 = 0 := by
        rw [if_pos d]; show ¬ (1 : Int) = 0; decide
      have en : nBx a b (x + 1) = nBx a b x ||| 2 ^ x := by
        show (if fIn x a b then _ else _) = _
        rw [if_pos d]
      obtain ⟨G', k1, k2, k3⟩ := ih (x + 1) fu (pRm G c x) (by omega) (by omega) (by rw [pRm_fr (by omega) (by omega)]; exact h3) (by rw [pRm_fr (by omega) (by omega)]; exact h4) ⟨by rw [en, ← Nat.or_assoc]; exact pRm_m (by omega) h5.1, by rw [pRm_fr (by omega) (by omega)]; exact h5.2.1, h5.2.2.1, by rw [pRm_fr (by omega) (by omega)]; exact h5.2.2.2⟩
      refine ⟨G', ?_, k2, fun a j q => by rw [k3 a j q, pRm_fr (by omega) (by omega)]⟩
      rw [e0]
      unfold g344_105b g344_141
      rw [if_neg (by omega), if_pos hi2, if_pos hi2, Int.toNat_natCast, h3, h4, l_345 (by omega) ha hb, Option.bind_some, if_neg s1, l_342 hc (by omega), Option.bind_some, e]
      exact k1
    · have s1 : ((if fIn x a b then (1 : Int) else 0, G) : Int × xG_).1 = 0 := by
        rw [if_neg d]
      have en : nBx a b (x + 1) = nBx a b x := by
        show (if fIn x a b then _ else _) = _
        rw [if_neg d]
      obtain ⟨G', k1, k2, k3⟩ := ih (x + 1) fu G (by omega) (by omega) h3 h4 (by rw [en]; exact h5)
      refine ⟨G', ?_, k2, k3⟩
      rw [e0]
      unfold g344_105b g344_141
      rw [if_neg (by omega), if_pos hi2, if_pos hi2, Int.toNat_natCast, h3, h4, l_345 (by omega) ha hb, Option.bind_some, if_pos s1, e]
      exact k1
theorem l_344_147 {G : xG_} {i : Nat} {r48 : Int → Int → xG_ → Option xG_} {m w : Nat} {bb : Bool} (hf : 20 < f) (hc : c < 72) (hi : i < 140) (hN : rNs G 2 s.1) {kd x : Int} (h1 : G 258 i = kd) (h2 : G 262 i = x) (hr : rRo G c m w bb) {y : pNd} (hy1 : y.1 = kd) (hy2 : y.2.2.2.2 = x) :
    ∃ G', g344_147 r48 f (c : Int) (i : Int) G = r48 (c : Int) ((i + 1 : Nat) : Int) G' ∧ rRo G' c m (w ||| nO1 s y) (bb || decide (6 ≤ y.1 ∧ y.1 ≤ 9)) ∧ xfR c G G' := by
  have e : xwr ((i : Int) + 1) = ((i + 1 : Nat) : Int) := by rw [xwr_g _ (by omega) (by omega)]; omega
  have hi2 : 0 ≤ (i : Int) ∧ (i : Int) < 140 := by omega
  have hc2 : 0 ≤ (c : Int) ∧ (c : Int) < 72 := by omega
  have hl := hN.2.1
  obtain ⟨r1, r2, r3, r4⟩ := hr
  unfold g344_147 g344_216
  rw [if_pos hi2, Int.toNat_natCast, h1, e]
  unfold nO1
  rw [hy1, hy2]
  by_cases c6 : kd < 6
  · refine ⟨G, by rw [if_pos c6], ⟨r1, ?_, ?_, ?_⟩, fun _ _ _ => rfl⟩
    · rw [if_neg (by omega), Nat.or_zero]; exact r2
    · rw [if_neg (by omega), Nat.or_zero]; exact r3
    · rw [decide_eq_false (by omega), Bool.or_false]; exact r4
  · rw [if_neg c6, if_pos hi2]
    by_cases c9 : kd ≤ 9
    · rw [if_pos c9, if_pos hc2, Option.bind_some, if_pos hi2]
      have dt : decide (6 ≤ kd ∧ kd ≤ 9) = true := decide_eq_true (by omega)
      rw [dt, Bool.or_true, Int.toNat_natCast]
      let G1 := xup2 G 266 c 1
      have z1 : ∀ a j, ¬ (a = 266 ∧ j = c) → G1 a j = G a j := fun a j q => xup2_n (by omega)
      have z2 : G1 266 c = 1 := xup2_s _ _ _ _
      show ∃ G', ((g205 f 2 (G1 262 i) G1).bind fun R111 => if (R111.1) = (-1) then _ else _) = _ ∧ _
      rw [z1 _ _ (by omega), h2, (hN.ge' (G' := G1) (z1 _ _ (by omega)) (fun j => z1 _ _ (by omega))).idx (by decide) hf, Option.bind_some]
      simp only []
      by_cases d : pIdx s.1 x = -1
      · rw [if_pos d]
        refine ⟨G1, rfl, ⟨?_, ?_, ?_, z2⟩, fun a j q => z1 a j (by omega)⟩
        · rw [z1 _ _ (by omega), z1 _ _ (by omega)]; exact r1
        · rw [if_neg (by omega), Nat.or_zero, z1 _ _ (by omega)]; exact r2
        · rw [if_neg (by omega), Nat.or_zero]; exact r3
      · have hp := pIdx_in s.1 x
        obtain ⟨p, hpe⟩ : ∃ p : Nat, pIdx s.1 x = (p : Int) := ⟨(pIdx s.1 x).toNat, by omega⟩
        have hp16 : p < 16 := by omega
        have w31 : w < 2147483648 := Nat.lt_of_lt_of_le r3 (by decide)
        rw [if_neg d, if_pos hc2, z1 _ _ (by omega), r2, hpe, xorb w31 (by omega), if_pos hc2, Option.bind_some]
        have hd : 6 ≤ kd ∧ kd ≤ 9 ∧ (p : Int) ≠ -1 := by omega
        refine ⟨_, rfl, ⟨?_, ?_, ?_, ?_⟩, fun a j q => ?_⟩
        · rw [xup2_n (by omega), xup2_n (by omega), z1 _ _ (by omega), z1 _ _ (by omega)]; exact r1
        · rw [xup2_s, if_pos hd, Int.toNat_natCast]
        · rw [if_pos hd, Int.toNat_natCast]
          exact or_lt r3 hp16
        · rw [xup2_n (by omega)]; exact z2
        · rw [xup2_n (by omega)]; exact z1 a j (by omega)
    · refine ⟨G, by rw [if_neg c9], ⟨r1, ?_, ?_, ?_⟩, fun _ _ _ => rfl⟩
      · rw [if_neg (by omega), Nat.or_zero]; exact r2
      · rw [if_neg (by omega), Nat.or_zero]; exact r3
      · rw [decide_eq_false (by omega), Bool.or_false]; exact r4
theorem nd_step {N : List pNd} {x : Nat} (h : x < N.length) : N.drop x = N.getD x dNd :: N.drop (x + 1) := by
  rw [List.drop_eq_getElem_cons h]
  congr 1
  rw [List.getD_eq_getElem?_getD, List.getElem?_eq_getElem h]
  rfl
theorem rNd.R {G G' : xG_} (h : rNd G N) (hx : xfR c G G') : rNd G' N := h.ge (hx _ _ (by omega)) (fun a j _ _ => hx _ _ (by omega))
theorem l_344_48 (hf : 100 < f) (hc : c < 72) (hw : wFm N) (hl : N.length ≤ 62) : ∀ (k i fu : Nat) (G : xG_) (m w : Nat) (bb : Bool), i + k = N.length → k < fu → rNd G N → rNs G 2 s.1 → rRo G c m w bb →
    ∃ G', g344_48 f fu (c : Int) (i : Int) G = some G' ∧ rRo G' c (m ||| nRd (N.drop i)) (w ||| nOf s (N.drop i)) (bb || nNm (N.drop i)) ∧ xfR c G G' := by
  intro k
  induction k with
  | zero =>
    intro i fu G m w bb h1 h2 h3 h4 h5
    obtain ⟨fu, rfl⟩ : ∃ t, fu = t + 1 := ⟨fu - 1, by omega⟩
    have en : N.drop i = [] := List.drop_eq_nil_of_le (by omega)
    refine ⟨G, ?_, ?_, fun _ _ _ => rfl⟩
    · show g344_48b (g344_48 f fu) f _ _ _ = _
      unfold g344_48b
      rw [h3.1, if_pos (by omega)]
    · rw [en]
      show rRo G c (m ||| 0) (w ||| 0) (bb || false)
      rw [Nat.or_zero, Nat.or_zero, Bool.or_false]
      exact h5
  | succ k ih =>
    intro i fu G m w bb h1 h2 h3 h4 h5
    obtain ⟨fu, rfl⟩ : ∃ t, fu = t + 1 := ⟨fu - 1, by omega⟩
    have hi : i < N.length := by omega
    have hi2 : 0 ≤ (i : Int) ∧ (i : Int) < 140 := by omega
    have hwi := hw i hi
    unfold wNd at hwi
    obtain ⟨n1, n2, n3, n4, n5⟩ := h3.2 i hi
    have e0 : g344_48 f (fu + 1) (c : Int) (i : Int) G = g344_48b (g344_48 f fu) f (c : Int) (i : Int) G := rfl
    rw [nd_step hi]
    -- CELLS first
    have st1 : ∃ G1, g344_48b (g344_48 f fu) f (c : Int) (i : Int) G = g344_147 (g344_48 f fu) f (c : Int) (i : Int) G1 ∧ rRo G1 c (m ||| nR1 (N.getD i dNd)) w bb ∧ xfR c G G1 := by
      unfold g344_48b
      rw [h3.1, if_neg (by omega), if_pos hi2, Int.toNat_natCast, n1]
      unfold nR1
      generalize N.getD i dNd = y at *
      by_cases c2 : y.1 = 2
      · have q : 0 ≤ y.2.1 ∧ y.2.1 < 72 := by
          clear ih
          omega
        obtain ⟨x, hx⟩ : ∃ x : Nat, y.2.1 = (x : Int) := ⟨y.2.1.toNat, by omega⟩
        refine ⟨pRm G c x, ?_, ?_, fun a j q => pRm_fr (by omega) (by omega)⟩
        · rw [if_neg (fun q => q c2), if_pos hi2, n2, hx, l_342 hc (by omega), Option.bind_some]
          unfold g344_80
          rw [if_pos hi2, Int.toNat_natCast, pRm_fr (by omega) (by omega), n1, if_neg (by omega), if_pos hi2, if_pos (by omega)]
        · rw [if_pos c2, hx, Int.toNat_natCast]
          exact ⟨pRm_m (by omega) h5.1, by rw [pRm_fr (by omega) (by omega)]; exact h5.2.1, h5.2.2.1, by rw [pRm_fr (by omega) (by omega)]; exact h5.2.2.2⟩
      · rw [if_pos c2, if_neg c2]
        unfold g344_80 g344_102
        rw [if_pos hi2, Int.toNat_natCast, n1, if_pos hi2]
        by_cases c4 : y.1 = 4 ∨ y.1 = 5
        · have q : (0 ≤ y.2.1 ∧ y.2.1 < 72) ∧ (0 ≤ y.2.2.1 ∧ y.2.2.1 < 72) := by
            clear ih
            rcases hwi with q | q | q | q | q | q
            · omega
            · omega
            · omega
            · exact q.2
            · omega
            · omega
          obtain ⟨G', k1, k2, k3⟩ := l_344_105 (f := f) (r48 := g344_48 f fu) hc (by omega : i < 140) q.1 q.2 (m := m) (w := w) (bb := bb) 72 0 f G rfl (by omega) n2 n3 (by
            show rRo G c (m ||| 0) w bb
            rw [Nat.or_zero]; exact h5)
          rw [if_pos c4]
          refine ⟨G', ?_, k2, k3⟩
          rw [← k1]
          by_cases d : y.1 = 4
          · rw [if_pos d]; rfl
          · rw [if_neg d, if_neg (fun q => q (by omega))]; rfl
        · rw [if_neg c4]
          refine ⟨G, ?_, by rw [Nat.or_zero]; exact h5, fun _ _ _ => rfl⟩
          rw [if_neg (by omega), if_pos (by omega)]
    obtain ⟨G1, u1, u2, u3⟩ := st1
    obtain ⟨G2, v1, v2, v3⟩ := l_344_147 (f := f) (i := i) (r48 := g344_48 f fu) (by omega) hc (by omega) (h4.ge' (G' := G1) (u3 _ _ (by omega)) (fun j => u3 _ _ (by omega))) (by rw [u3 _ _ (by omega)]; exact n1) (by rw [u3 _ _ (by omega)]; exact n5) u2 (y := N.getD i dNd) rfl rfl
    have h34 := u3.tr v3
    obtain ⟨G', k1, k2, k3⟩ := ih (i + 1) fu G2 _ _ _ (by omega) (by omega) (h3.R h34) (h4.ge' (h34 _ _ (by omega)) (fun j => h34 _ _ (by omega))) v2
    refine ⟨G', ?_, ?_, h34.tr k3⟩
    · rw [e0, u1, v1]
      exact k1
    · show rRo G' c (m ||| (nR1 (N.getD i dNd) ||| nRd (N.drop (i + 1)))) (w ||| (nO1 s (N.getD i dNd) ||| nOf s (N.drop (i + 1)))) (bb || (decide _ || nNm (N.drop (i + 1))))
      rw [← Nat.or_assoc, ← Nat.or_assoc, ← Bool.or_assoc]
      exact k2
end
/-! The texts of CELLS -/
/-- each CELL's FORMULA: nodes, root -/
abbrev fXs : Type := Nat → Option (List pNd × Int)
def okX (X : fXs) : Prop := ∀ c, c < 72 → ∀ e, X c = some e → wFm e.1 ∧ e.1.length ≤ 62 ∧ 0 ≤ e.2 ∧ e.2 < e.1.length
def xOf (T : List (List Int)) (K : Nat → Nat) : fXs := fun c => if K c = 0 then none else match qCt (T.getD (K c) []) with
  | .inr r => some (r.2.1, r.2.2)
  | .inl _ => none
/-- the texts' numbers of a line's CELLS -/
def rKt (G : xG_) (o : Nat) (T : List (List Int)) (K : Nat → Nat) : Prop := ∀ c, c < 72 → G (o + 15) c = (K c : Int) ∧ K c < T.length ∧ (K c ≠ 0 → ∃ r, qCt (T.getD (K c) []) = .inr r ∧ r.1 = (c : Int) ∧ r.2.2 ≠ -1)
def xRd (X : fXs) (c : Nat) : Nat := match X c with
  | none => 0
  | some e => nRd e.1
def xRo (X : fXs) (s : pPg) (c : Nat) : Nat := match X c with
  | none => 0
  | some e => nOf s e.1
def xRn (X : fXs) (c : Nat) : Bool := match X c with
  | none => false
  | some e => nNm e.1
section
variable {f o m : Nat} {T : List (List Int)} {K : Nat → Nat} {G : xG_} {s : pPg}
theorem l_341 {c : Nat} (hf : 3100 < f) (hc : c < 72) (hC : rC G) (hT : rTxs G T m) (hK : rKt G o T K) (h0 : K c ≠ 0) :
    ∃ e G', xOf T K c = some e ∧ g341 f o (c : Int) G = some (e.2, G') ∧ rNd G' e.1 ∧ wFm e.1 ∧ e.1.length ≤ 62 ∧ 0 ≤ e.2 ∧ e.2 < e.1.length ∧ xfK G G' := by
  obtain ⟨k1, k2, k3⟩ := hK c hc
  obtain ⟨r, q1, q2, q3⟩ := k3 h0
  obtain ⟨t1, t2, t3, t4, t5⟩ := hT
  obtain ⟨b0, q, b1, b2, b3, b4⟩ := t5 (K c) k2
  have h := l_333 (f := f) hf b0 hC b4
  rw [q1] at h
  obtain ⟨G', u1, u2, u3, u4, u5, u6, u7, u8, u9, u10⟩ := h
  have hx : xOf T K c = some (r.2.1, r.2.2) := by
    unfold xOf
    rw [if_neg h0, q1]
  have hr : 0 ≤ r.2.2 ∧ r.2.2 < r.2.1.length := by
    rcases u8 with z | z
    · exact absurd z.1 q3
    · exact z
  have hc2 : 0 ≤ (c : Int) ∧ (c : Int) < 72 := by omega
  have hk2 : 0 ≤ (K c : Int) ∧ (K c : Int) < 4200 := by omega
  refine ⟨_, G', hx, ?_, u6, u7, u9, hr.1, hr.2, u10⟩
  unfold g341
  rw [if_pos hc2, Int.toNat_natCast, k1, if_pos hk2, if_pos hc2, if_pos hk2, if_pos hc2, if_pos hk2, Int.toNat_natCast, b1, b2, xwr_g _ (by omega) (by omega), u1]
  rfl
theorem xOf_none {c : Nat} (h : K c = 0) : xOf T K c = none := by
  unfold xOf
  rw [if_pos h]
/-- what findReadings changes -/
def xfFr (c : Nat) (G G' : xG_) : Prop := ∀ a j, ¬ (263 ≤ a ∧ a ≤ 266 ∧ j = c) → ¬ (a = 0 ∧ (j ≤ 11 ∨ j = 21 ∨ j = 25 ∨ j = 89 ∨ j = 90)) → ¬ (258 ≤ a ∧ a ≤ 262) → G' a j = G a j
theorem l_344 {c : Nat} (hf : 3100 < f) (ho : 122 < o ∧ o < 211) (hc : c < 72) (hC : rC G) (hT : rTxs G T m) (hK : rKt G o T K) (hN : rNs G 2 s.1) :
    ∃ G', g344 f o (c : Int) G = some G' ∧ rRo G' c (xRd (xOf T K) c) (xRo (xOf T K) s c) (xRn (xOf T K) c) ∧ xfFr c G G' := by
  have hc2 : 0 ≤ (c : Int) ∧ (c : Int) < 72 := by omega
  let G1 := xup2 (xup2 (xup2 (xup2 G 263 c 0) 264 c 0) 265 c 0) 266 c 0
  have z : xfR c G G1 := fun a j q => by
    show xup2 _ _ _ _ _ _ = _
    rw [xup2_n (by omega), xup2_n (by omega), xup2_n (by omega), xup2_n (by omega)]
  have z3 : G1 263 c = 0 := by
    show xup2 _ _ _ _ _ _ = _
    rw [xup2_n (by omega), xup2_n (by omega), xup2_n (by omega), xup2_s]
  have z4 : G1 264 c = 0 := by
    show xup2 _ _ _ _ _ _ = _
    rw [xup2_n (by omega), xup2_n (by omega), xup2_s]
  have z5 : G1 265 c = 0 := by
    show xup2 _ _ _ _ _ _ = _
    rw [xup2_n (by omega), xup2_s]
  have z6 : G1 266 c = 0 := xup2_s _ _ _ _
  have hz : rRo G1 c 0 0 false := ⟨by rw [z3, z4]; exact .z, z5, by decide, z6⟩
  have e0 : g344 f o (c : Int) G = (if ¬ (G1 (o + 15) c) = 0 then ((g341 f o (c : Int) G1).bind fun R172 => g344_48 f f (c : Int) 0 R172.2) else some G1) := by
    unfold g344
    rw [if_pos hc2, Int.toNat_natCast, Option.bind_some, if_pos hc2, Option.bind_some, if_pos hc2, Option.bind_some, if_pos hc2, Option.bind_some, if_pos hc2]
  have hK1 : rKt G1 o T K := fun x hx => by
    rw [z _ _ (by omega)]
    exact hK x hx
  have k1 := (hK1 c hc).1
  by_cases h0 : K c = 0
  · refine ⟨G1, ?_, ?_, fun a j q _ _ => z a j q⟩
    · rw [e0, k1, h0, if_neg (fun q => q rfl)]
    · unfold xRd xRo xRn
      rw [xOf_none h0]
      exact hz
  · have hC1 : rC G1 := by
      obtain ⟨k1, k2, k3, k4, k5, k6, k7, k8, k9⟩ := hC
      exact ⟨by rw [z _ _ (by omega)]; exact k1, by rw [z _ _ (by omega)]; exact k2, by rw [z _ _ (by omega)]; exact k3, by rw [z _ _ (by omega)]; exact k4, by rw [z _ _ (by omega)]; exact k5, by rw [z _ _ (by omega)]; exact k6, by rw [z _ _ (by omega)]; exact k7, by rw [z _ _ (by omega)]; exact k8, by rw [z _ _ (by omega)]; exact k9⟩
    have hT1 : rTxs G1 T m := hT.ge (z _ _ (by omega)) (z _ _ (by omega)) (fun a j q => z _ _ (by omega))
    obtain ⟨e, G2, x1, x2, x3, x4, x5, x6, x7, x8⟩ := l_341 hf hc hC1 hT1 hK1 h0
    have hN2 : rNs G2 2 s.1 := hN.ge' (by rw [x8 _ _ (by omega) (by omega)]; exact z _ _ (by omega)) (fun j => by rw [x8 _ _ (by omega) (by omega)]; exact z _ _ (by omega))
    have hz2 : rRo G2 c 0 0 false := ⟨by rw [x8 _ _ (by omega) (by omega), x8 _ _ (by omega) (by omega)]; exact hz.1, by rw [x8 _ _ (by omega) (by omega)]; exact hz.2.1, hz.2.2.1, by rw [x8 _ _ (by omega) (by omega)]; exact hz.2.2.2⟩
    obtain ⟨G3, y1, y2, y3⟩ := l_344_48 (f := f) (s := s) (by omega) hc x4 x5 e.1.length 0 f G2 0 0 false (by omega) (by omega) x3 hN2 hz2
    rw [Nat.zero_or, Nat.zero_or, Bool.false_or, List.drop_zero] at y2
    refine ⟨G3, ?_, ?_, fun a j q1 q2 q3 => by rw [y3 a j q1, x8 a j q2 q3]; exact z a j q1⟩
    · rw [e0, k1, if_pos (by omega), x2, Option.bind_some]
      exact y1
    · unfold xRd xRo xRn
      rw [x1]
      exact y2
end
end
section
/-! The SHEET: what its CELLS are worth -/
section
variable {C D : fCs} {s : pPg} {M : Nat → List pRw}
theorem fOc_l {a b : Int} : ∀ (k x : Nat) (v n : Int), x + k = 72 → (∀ y, y < 72 → fIn y a b → C y = D y) → fOc C a b k x v n = fOc D a b k x v n
  | 0, _, _, _, _, _ => rfl
  | k + 1, x, v, n, h1, h2 => by
    unfold fOc
    have ih := fun v n => fOc_l k (x + 1) v n (by omega) h2
    by_cases c : fIn x a b
    · rw [h2 x (by omega) c, ih, ih]
    · rw [if_neg (fun q => c q.1), if_neg (fun q => c q.1), ih]
theorem nRd_mem {x : Nat} : ∀ (N : List pNd) (i : Nat), i < N.length → (nR1 (N.getD i dNd)).testBit x = true → (nRd N).testBit x = true
  | [], i, h, _ => absurd h (Nat.not_lt_zero i)
  | y :: N, 0, _, h2 => by
    show (nR1 y ||| nRd N).testBit x = true
    rw [Nat.testBit_or, Bool.or_eq_true]
    exact .inl h2
  | y :: N, i + 1, h1, h2 => by
    show (nR1 y ||| nRd N).testBit x = true
    rw [Nat.testBit_or, Bool.or_eq_true]
    exact .inr (nRd_mem N i (by simpa using h1) h2)
theorem nRd_of {x : Nat} : ∀ (N : List pNd), (nRd N).testBit x = true → ∃ i, i < N.length ∧ (nR1 (N.getD i dNd)).testBit x = true
  | [], h => by
    have h' : (0 : Nat).testBit x = true := h
    rw [Nat.zero_testBit] at h'
    cases h'
  | y :: N, h => by
    have h' : (nR1 y ||| nRd N).testBit x = true := h
    rw [Nat.testBit_or, Bool.or_eq_true] at h'
    rcases h' with h' | h'
    · exact ⟨0, Nat.zero_lt_succ _, h'⟩
    · obtain ⟨i, a1, a2⟩ := nRd_of N h'
      exact ⟨i + 1, Nat.succ_lt_succ a1, a2⟩
theorem nRd_72 {N : List pNd} (hw : wFm N) {x : Nat} (h : (nRd N).testBit x = true) : x < 72 := by
  obtain ⟨i, a1, a2⟩ := nRd_of N h
  have hi := hw i a1
  unfold wNd at hi
  unfold nR1 at a2
  generalize N.getD i dNd = y at *
  by_cases c2 : y.1 = 2
  · rw [if_pos c2, Nat.testBit_two_pow, decide_eq_true_iff] at a2
    have : 0 ≤ y.2.1 ∧ y.2.1 < 72 := by
      rcases hi with q | q | q | q | q | q
      · omega
      · exact q.2
      · omega
      · omega
      · omega
      · omega
    omega
  · rw [if_neg c2] at a2
    by_cases c4 : y.1 = 4 ∨ y.1 = 5
    · rw [if_pos c4] at a2
      exact ((nBx_t _ _).mp a2).1
    · rw [if_neg c4, Nat.zero_testBit] at a2
      cases a2
/-- a worth hangs on what is read alone -/
theorem fW_l {N : List pNd} (hw : wFm N) (h : ∀ x, x < 72 → (nRd N).testBit x = true → C x = D x) : ∀ (n i : Nat), i < n → i < N.length → fW N C s M n i = fW N D s M n i := by
  intro n
  induction n with
  | zero => intro i h; omega
  | succ n ih =>
    intro i h1 h2
    have hi := hw i h2
    unfold wNd at hi
    have hm := fun x => nRd_mem (x := x) N i h2
    unfold nR1 at hm
    unfold fW
    generalize N.getD i dNd = y at *
    by_cases c1 : y.1 = 1
    · rw [if_pos c1, if_pos c1]
    rw [if_neg c1, if_neg c1]
    by_cases c2 : y.1 = 2
    · have q : 0 ≤ y.2.1 ∧ y.2.1 < 72 := by
        clear ih hm h
        rcases hi with q | q | q | q | q | q
        · omega
        · exact q.2
        · omega
        · omega
        · omega
        · omega
      have hm' := hm y.2.1.toNat
      rw [if_pos c2, Nat.testBit_two_pow, decide_eq_true rfl] at hm'
      rw [if_pos c2, if_pos c2, h y.2.1.toNat (by omega) (hm' rfl)]
    rw [if_neg c2, if_neg c2]
    by_cases c3 : y.1 = 3
    · have q : (0 ≤ y.2.1 ∧ y.2.1 < i) ∧ (0 ≤ y.2.2.1 ∧ y.2.2.1 < i) := by
        clear ih hm h
        rcases hi with q | q | q | q | q | q
        · omega
        · omega
        · exact ⟨q.2.1, q.2.2.1⟩
        · omega
        · omega
        · omega
      rw [if_pos c3, if_pos c3, ih _ (by omega) (by omega), ih _ (by omega) (by omega)]
    rw [if_neg c3, if_neg c3]
    by_cases c4 : y.1 = 4 ∨ y.1 = 5
    · rw [if_pos c4, if_pos c4]
      unfold fOv
      rw [fOc_l (D := D) 72 0 0 0 rfl (fun x x1 x2 => h x x1 (hm x (by rw [if_neg c2, if_pos c4]; exact (nBx_t _ _).mpr ⟨x1, x2⟩)))]
    rw [if_neg c4, if_neg c4]
    by_cases c5 : y.1 = 10
    · have q : (0 ≤ y.2.1 ∧ y.2.1 < i) ∧ (0 ≤ y.2.2.1 ∧ y.2.2.1 < i) ∧ 0 ≤ y.2.2.2.1 ∧ y.2.2.2.1 < i := by
        clear ih hm h
        rcases hi with q | q | q | q | q | q
        · omega
        · omega
        · omega
        · omega
        · omega
        · exact q.2
      rw [if_pos c5, if_pos c5, ih _ (by omega) (by omega), ih _ (by omega) (by omega), ih _ (by omega) (by omega)]
    rw [if_neg c5, if_neg c5]
theorem fWr_l {N : List pNd} {r : Int} (hw : wFm N) (hl : N.length ≤ 62) (hr : 0 ≤ r ∧ r < N.length) (h : ∀ x, x < 72 → (nRd N).testBit x = true → C x = D x) : fWr N r C s M = fWr N r D s M := fW_l hw h 64 r.toNat (by omega) (by omega)
end
/-- how many numbers below k a mask has -/
def nct : Nat → Nat → Nat
  | 0, _ => 0
  | k + 1, a => nct k a + if a.testBit k = true then 1 else 0
theorem nct_le {a b : Nat} : ∀ k, (∀ x, x < k → a.testBit x = true → b.testBit x = true) → nct k a ≤ nct k b
  | 0, _ => Nat.le_refl _
  | k + 1, h => by
    have ih := nct_le k (fun x hx => h x (by omega))
    unfold nct
    by_cases c : a.testBit k = true
    · rw [if_pos c, if_pos (h k (by omega) c)]; omega
    · rw [if_neg c]; omega
theorem nct_lt {a b x : Nat} : ∀ k, (∀ x, x < k → a.testBit x = true → b.testBit x = true) → x < k → b.testBit x = true → ¬ a.testBit x = true → nct k a < nct k b
  | 0, _, h, _, _ => absurd h (Nat.not_lt_zero x)
  | k + 1, h, h1, h2, h3 => by
    unfold nct
    by_cases c : x = k
    · have := nct_le k (fun x hx => h x (by omega))
      rw [c] at h2 h3
      rw [if_neg h3, if_pos h2]; omega
    · have ih := nct_lt k (fun x hx => h x (by omega)) (by omega) h2 h3
      by_cases d : a.testBit k = true
      · rw [if_pos d, if_pos (h k (by omega) d)]; omega
      · rw [if_neg d]; omega
theorem nct_k (a : Nat) : ∀ k, nct k a ≤ k
  | 0 => Nat.le_refl _
  | k + 1 => by
    have := nct_k a k
    unfold nct
    split <;> omega
theorem nct_pos {a x k : Nat} (h1 : x < k) (h2 : a.testBit x = true) : 0 < nct k a := by
  have := nct_lt (a := 0) (b := a) (x := x) k (fun y _ h => by rw [Nat.zero_testBit] at h; cases h) h1 h2 (by rw [Nat.zero_testBit]; decide)
  omega
section
variable {X : fXs} {s : pPg} {M : Nat → List pRw}
/-- what a CELL reads, round about too -/
def xFr (X : fXs) : Nat → Nat := qWm 72 (xRd X) 72
abbrev xCy (X : fXs) (c : Nat) : Prop := (xFr X c).testBit c = true
def wCv (x : fWo) : Int × Int := match x with
  | .inl e => (2, e)
  | .inr v => (1, v)
def qCv (X : fXs) (s : pPg) (M : Nat → List pRw) (C : fCs) (c : Nat) : Int × Int := match X c with
  | none => (0, 0)
  | some e => if xCy X c then (2, 1) else wCv (fWr e.1 e.2 C s M)
def fShI (X : fXs) (s : pPg) (M : Nat → List pRw) : Nat → fCs
  | 0 => fun _ => (0, 0)
  | k + 1 => qCv X s M (fShI X s M k)
/-- THE SHEET -/
def fSh (X : fXs) (s : pPg) (M : Nat → List pRw) : fCs := fShI X s M 73
theorem xRd_72 (hX : okX X) {c x : Nat} (hc : c < 72) (h : (xRd X c).testBit x = true) : x < 72 := by
  unfold xRd at h
  cases hx : X c with
  | none => rw [hx] at h; rw [Nat.zero_testBit] at h; cases h
  | some e => rw [hx] at h; exact nRd_72 (hX c hc e hx).1 h
/-- a CELL outside all rings reaches more than what it reads -/
theorem xFr_lt (hX : okX X) {c x : Nat} (hc : c < 72) (h : (xRd X c).testBit x = true) (hr : ¬ xCy X x) : nct 72 (xFr X x) < nct 72 (xFr X c) := by
  obtain ⟨a1, a2⟩ := qWm_tr (np := 72) (T := xRd X)
  have hx := xRd_72 hX hc h
  have h1 := a1 c hc x h
  exact nct_lt 72 (fun y _ hy => a2 c x y hc hx h1 hy) hx h1 hr
theorem qCv_l (hX : okX X) {C D : fCs} {c : Nat} (hc : c < 72) (h : ∀ x, x < 72 → (xRd X c).testBit x = true → C x = D x) : qCv X s M C c = qCv X s M D c := by
  unfold qCv
  cases hx : X c with
  | none => rfl
  | some e =>
    obtain ⟨q1, q2, q3, q4⟩ := hX c hc e hx
    have hh : xRd X c = nRd e.1 := by unfold xRd; rw [hx]
    rw [hh] at h
    show (if xCy X c then _ else wCv (fWr e.1 e.2 C s M)) = (if xCy X c then _ else wCv (fWr e.1 e.2 D s M))
    rw [fWr_l q1 q2 ⟨q3, q4⟩ h]
theorem qCv_r {C D : fCs} {c : Nat} (h : X c = none ∨ xCy X c) : qCv X s M C c = qCv X s M D c := by
  unfold qCv
  cases hx : X c with
  | none => rfl
  | some e =>
    rcases h with h | h
    · rw [hx] at h; cases h
    · show (if xCy X c then _ else _) = (if xCy X c then _ else _)
      rw [if_pos h, if_pos h]
theorem fShI_st (hX : okX X) : ∀ (k c : Nat), c < 72 → 1 ≤ k → (¬ xCy X c → nct 72 (xFr X c) < k) → fShI X s M k c = fShI X s M (k + 1) c := by
  intro k
  induction k with
  | zero => intro c _ h; omega
  | succ k ih =>
    intro c hc _ h2
    show qCv X s M (fShI X s M k) c = qCv X s M (fShI X s M (k + 1)) c
    by_cases hr : xCy X c
    · exact qCv_r (.inr hr)
    · refine qCv_l hX hc (fun x hx hx2 => ?_)
      have h3 := h2 hr
      obtain ⟨a1, a2⟩ := qWm_tr (np := 72) (T := xRd X)
      have h4 := nct_pos hx (a1 c hc x hx2)
      have h5 : nct 72 (xFr X c) = nct 72 (qWm 72 (xRd X) 72 c) := rfl
      refine ih x hx (by omega) (fun hrx => ?_)
      have := xFr_lt hX hc hx2 hrx
      omega
theorem fSh_fix (hX : okX X) {c : Nat} (hc : c < 72) : fSh X s M c = qCv X s M (fSh X s M) c := by
  have := fShI_st (s := s) (M := M) hX 73 c hc (by decide) (fun _ => by have := nct_k (xFr X c) 72; omega)
  exact this
theorem wCv_ok {x : fWo} (h : okW x) : (((wCv x).1 = 0 ∧ (wCv x).2 = 0) ∨ ((wCv x).1 = 1 ∧ vOk (wCv x).2) ∨ ((wCv x).1 = 2 ∧ 1 ≤ (wCv x).2 ∧ (wCv x).2 ≤ 4)) := by
  cases x with
  | inl e => exact .inr (.inr ⟨rfl, h⟩)
  | inr v => exact .inr (.inl ⟨rfl, h⟩)
theorem qCv_ok (hX : okX X) (hM : okM s M) (hl : ∀ p, p < s.1.length → (M p).length ≤ 520) {C : fCs} (hC : okC C) : okC (qCv X s M C) := by
  intro c hc
  unfold qCv
  cases hx : X c with
  | none => exact .inl ⟨rfl, rfl⟩
  | some e =>
    obtain ⟨q1, q2, q3, q4⟩ := hX c hc e hx
    show ((if xCy X c then ((2 : Int), (1 : Int)) else wCv (fWr e.1 e.2 C s M)).1 = 0 ∧ (if xCy X c then ((2 : Int), (1 : Int)) else wCv (fWr e.1 e.2 C s M)).2 = 0) ∨ ((if xCy X c then ((2 : Int), (1 : Int)) else wCv (fWr e.1 e.2 C s M)).1 = 1 ∧ vOk (if xCy X c then ((2 : Int), (1 : Int)) else wCv (fWr e.1 e.2 C s M)).2) ∨ ((if xCy X c then ((2 : Int), (1 : Int)) else wCv (fWr e.1 e.2 C s M)).1 = 2 ∧ 1 ≤ (if xCy X c then ((2 : Int), (1 : Int)) else wCv (fWr e.1 e.2 C s M)).2 ∧ (if xCy X c then ((2 : Int), (1 : Int)) else wCv (fWr e.1 e.2 C s M)).2 ≤ 4)
    by_cases r : xCy X c
    · rw [if_pos r]
      exact .inr (.inr ⟨rfl, by decide, by decide⟩)
    · rw [if_neg r]
      exact wCv_ok (fW_ok q1 hC hM hl 64 e.2.toNat (by omega) (by omega))
theorem fShI_ok (hX : okX X) (hM : okM s M) (hl : ∀ p, p < s.1.length → (M p).length ≤ 520) : ∀ k, okC (fShI X s M k)
  | 0 => fun _ _ => .inl ⟨rfl, rfl⟩
  | k + 1 => qCv_ok hX hM hl (fShI_ok hX hM hl k)
theorem fSh_ok (hX : okX X) (hM : okM s M) (hl : ∀ p, p < s.1.length → (M p).length ≤ 520) : okC (fSh X s M) := fShI_ok hX hM hl 73
/-- among CELLS that are not worked yet there is one that may be -/
theorem sh_next (hX : okX X) {D : Nat → Prop} (hD : ∀ c, c < 72 → xCy X c → D c) : ∀ (n c : Nat), c < 72 → ¬ D c → nct 72 (xFr X c) < n → ∃ x, x < 72 ∧ ¬ D x ∧ ∀ y, y < 72 → (xRd X x).testBit y = true → D y := by
  intro n
  induction n with
  | zero => intro c _ _ h; omega
  | succ n ih =>
    intro c hc hd hn
    by_cases h : ∀ y, y < 72 → (xRd X c).testBit y = true → D y
    · exact ⟨c, hc, hd, h⟩
    · obtain ⟨y, hy⟩ := Classical.not_forall.mp h
      obtain ⟨y1, hy⟩ := Classical.not_imp.mp hy
      obtain ⟨y2, y3⟩ := Classical.not_imp.mp hy
      have hr : ¬ xCy X y := fun q => y3 (hD y y1 q)
      have := xFr_lt hX hc y2 hr
      exact ih y y1 y3 (by omega)
end
end
section
/-! valueCells: the reference's SHEET -/
section
variable {f o m : Nat} {T : List (List Int)} {K : Nat → Nat} {s : pPg} {M : Nat → List pRw}
/-- what of the reference the SHEET reads -/
def eSh (G : xG_) (o : Nat) (T : List (List Int)) (m : Nat) (K : Nat → Nat) (s : pPg) (M : Nat → List pRw) : Prop := rC G ∧ rTxs G T m ∧ rKt G o T K ∧ rNs G 2 s.1 ∧ rPn G 2 s ∧ rTb G s.1.length (qN s) M
def xfV (o : Nat) (G G' : xG_) : Prop := ∀ a j, ¬ (a = 0 ∧ (j ≤ 11 ∨ j = 21 ∨ j = 25 ∨ j = 42 ∨ 89 ≤ j ∧ j ≤ 91)) → ¬ (258 ≤ a ∧ a ≤ 267) → ¬ (a = 269 ∨ a = 270) → a ≠ o + 17 → a ≠ o + 20 → G' a j = G a j
theorem xfV.tr {G G1 G2 : xG_} (h1 : xfV o G G1) (h2 : xfV o G1 G2) : xfV o G G2 := fun a j q1 q2 q3 q4 q5 => (h2 a j q1 q2 q3 q4 q5).trans (h1 a j q1 q2 q3 q4 q5)
theorem xfV.rf (G : xG_) : xfV o G G := fun _ _ _ _ _ _ _ => rfl
theorem eSh.ge {G G' : xG_} (h : eSh G o T m K s M) (ho : 122 < o ∧ o < 211) (hx : xfV o G G') : eSh G' o T m K s M := by
  obtain ⟨⟨k1, k2, k3, k4, k5, k6, k7, k8, k9⟩, a2, a3, a4, a5, a6⟩ := h
  have z : ∀ j, 12 ≤ j → j ≤ 20 → G' 0 j = G 0 j := fun j _ _ => hx _ _ (by omega) (by omega) (by omega) (by omega) (by omega)
  refine ⟨⟨by rw [z _ (by decide) (by decide)]; exact k1, by rw [z _ (by decide) (by decide)]; exact k2, by rw [z _ (by decide) (by decide)]; exact k3, by rw [z _ (by decide) (by decide)]; exact k4, by rw [z _ (by decide) (by decide)]; exact k5, by rw [z _ (by decide) (by decide)]; exact k6, by rw [z _ (by decide) (by decide)]; exact k7, by rw [z _ (by decide) (by decide)]; exact k8, by rw [z _ (by decide) (by decide)]; exact k9⟩, ?_, ?_, ?_, ?_, ?_⟩
  · exact a2.ge (hx _ _ (by omega) (by omega) (by omega) (by omega) (by omega)) (hx _ _ (by omega) (by omega) (by omega) (by omega) (by omega)) (fun a j q => hx _ _ (by omega) (by omega) (by omega) (by omega) (by omega))
  · intro c hc
    rw [hx _ _ (by omega) (by omega) (by omega) (by omega) (by omega)]
    exact a3 c hc
  · exact a4.ge' (hx _ _ (by omega) (by omega) (by omega) (by omega) (by omega)) (fun j => hx _ _ (by omega) (by omega) (by omega) (by omega) (by omega))
  · intro y hy
    rw [hx _ _ (by omega) (by omega) (by omega) (by omega) (by omega)]
    exact a5 y hy
  · exact a6.ge (fun a j _ _ => hx _ _ (by omega) (by omega) (by omega) (by omega) (by omega))
theorem okX_of {G : xG_} (hC : rC G) (hT : rTxs G T m) (hK : rKt G o T K) : okX (xOf T K) := by
  intro c hc e he
  by_cases h0 : K c = 0
  · rw [xOf_none h0] at he; cases he
  · obtain ⟨e', G', x1, x2, x3, x4, x5, x6, x7, x8⟩ := l_341 (f := 3101) (by decide) hc hC hT hK h0
    rw [x1] at he
    cases he
    exact ⟨x4, x5, x6, x7⟩
theorem xOf_is {G : xG_} (hK : rKt G o T K) {c : Nat} (hc : c < 72) : xOf T K c = none ↔ K c = 0 := by
  constructor
  · intro h
    by_cases h0 : K c = 0
    · exact h0
    · obtain ⟨r, q1, q2, q3⟩ := (hK c hc).2.2 h0
      unfold xOf at h
      rw [if_neg h0, q1] at h
      cases h
  · exact xOf_none
theorem xl267 : ((xl_t 267).2.2 : Int) = 72 := by decide +kernel
theorem l_348 {G : xG_} {c : Nat} {k v : Int} (hc : c < 72) : g348 f o (c : Int) k v G = some (xup2 (xup2 G (o + 17) c k) (o + 20) c v) := by
  unfold g348
  rw [if_pos (by omega), Option.bind_some, if_pos (by omega)]
  rfl
/-- what valueCells knows of CELL c at first -/
def rV1 (G : xG_) (o : Nat) (X : fXs) (s : pPg) (c : Nat) : Prop := rRo G c (xRd X c) (xRo X s c) (xRn X c) ∧ rM8 (G 269 c) (G 270 c) (xRd X c) ∧ (G 267 c = 0 ∧ X c ≠ none ∨ G 267 c = 1 ∧ X c = none ∧ G (o + 17) c = 0 ∧ G (o + 20) c = 0)
def cOf (G : xG_) (o : Nat) : fCs := fun x => (G (o + 17) x, G (o + 20) x)
theorem l_346_2 (hf : 3100 < f) (ho : 122 < o ∧ o < 211) : ∀ (k x fu : Nat) (G : xG_), x + k = 72 → k < fu → eSh G o T m K s M → okC (cOf G o) → (∀ c, c < x → rV1 G o (xOf T K) s c) →
    ∃ G', g346_2 f fu o (x : Int) G = g346_82 f f o 0 G' ∧ eSh G' o T m K s M ∧ okC (cOf G' o) ∧ (∀ c, c < 72 → rV1 G' o (xOf T K) s c) ∧ xfV o G G' := by
  intro k
  induction k with
  | zero =>
    intro x fu G h1 h2 h3 h4 h5
    obtain ⟨fu, rfl⟩ : ∃ t, fu = t + 1 := ⟨fu - 1, by omega⟩
    have hx : x = 72 := by omega
    subst hx
    refine ⟨G, ?_, h3, h4, h5, .rf G⟩
    show g346_2b (g346_2 f fu) f _ _ _ = _
    unfold g346_2b
    rw [if_pos (by omega)]
  | succ k ih =>
    intro x fu G h1 h2 h3 h4 h5
    obtain ⟨fu, rfl⟩ : ∃ t, fu = t + 1 := ⟨fu - 1, by omega⟩
    have hx : x < 72 := by omega
    have hx2 : 0 ≤ (x : Int) ∧ (x : Int) < 72 := by omega
    have e : xwr ((x : Int) + 1) = ((x + 1 : Nat) : Int) := by rw [xwr_g _ (by omega) (by omega)]; omega
    obtain ⟨G1, u1, u2, u3⟩ := l_344 hf ho hx h3.1 h3.2.1 h3.2.2.1 h3.2.2.2.1
    have hk := (h3.2.2.1 x hx).1
    have hn := xOf_is h3.2.2.1 hx
    let G2 := xup2 (xup2 G1 269 x (G1 263 x)) 270 x (xup2 G1 269 x (G1 263 x) 264 x)
    have z2 : ∀ a j, ¬ (a = 269 ∧ j = x) → ¬ (a = 270 ∧ j = x) → G2 a j = G1 a j := fun a j q1 q2 => by
      show xup2 _ _ _ _ _ _ = _
      rw [xup2_n (by omega), xup2_n (by omega)]
    have z9 : G2 269 x = G1 263 x := by
      show xup2 _ _ _ _ _ _ = _
      rw [xup2_n (by omega), xup2_s]
    have z0 : G2 270 x = G1 264 x := by
      show xup2 _ _ _ _ _ _ = _
      rw [xup2_s, xup2_n (by omega)]
    have k15 : G2 (o + 15) x = (K x : Int) := by
      rw [z2 _ _ (by omega) (by omega), u3 _ _ (by omega) (by omega) (by omega)]
      exact hk
    have e0 : g346_2 f (fu + 1) o (x : Int) G = (if ¬ (G2 (o + 15) x) = 0 then g346_57 (g346_2 f fu) f o (x : Int) 0 (x : Int) 267 G2 else g346_57 (g346_2 f fu) f o (x : Int) 1 (x : Int) 267 G2) := by
      show g346_2b (g346_2 f fu) f o (x : Int) G = _
      unfold g346_2b
      rw [if_neg (by omega), u1, Option.bind_some, if_pos hx2, if_pos hx2, Option.bind_some, if_pos hx2, if_pos hx2, Option.bind_some, if_pos hx2, Int.toNat_natCast]
    have e57 : ∀ b : Int, (b = 0 ∨ b = 1) → g346_57 (g346_2 f fu) f o (x : Int) b (x : Int) 267 G2 = (if b = 0 then g346_2 f fu o ((x + 1 : Nat) : Int) (xup2 G2 267 x b) else g346_2 f fu o ((x + 1 : Nat) : Int) (xup2 (xup2 (xup2 G2 267 x b) (o + 17) x 0) (o + 20) x 0)) := fun b hb => by
      unfold g346_57 g346_74
      rw [xl267, if_pos ⟨hx2.1, hx2.2, hb⟩, Option.bind_some, if_pos hx2, Int.toNat_natCast, xup2_s]
      by_cases c : b = 0
      · rw [if_pos c, if_pos c, e]
      · rw [if_neg c, if_neg c, l_348 hx, Option.bind_some, e]
    have base : ∀ G3 : xG_, (∀ a j, ¬ (a = 267 ∧ j = x) → ¬ (a = o + 17 ∧ j = x) → ¬ (a = o + 20 ∧ j = x) → G3 a j = G2 a j) → (∀ c, c < 72 → c ≠ x → cOf G3 o c = cOf G o c) ∧ xfV o G G3 ∧ (∀ c, c < x → rV1 G3 o (xOf T K) s c) ∧ rRo G3 x (xRd (xOf T K) x) (xRo (xOf T K) s x) (xRn (xOf T K) x) ∧ rM8 (G3 269 x) (G3 270 x) (xRd (xOf T K) x) := fun G3 h => by
      have hxf : xfV o G G3 := fun a j q1 q2 q3 q4 q5 => by
        rw [h a j (by omega) (by omega) (by omega), z2 _ _ (by omega) (by omega), u3 _ _ (by omega) (by omega) (by omega)]
      have hall : ∀ a j, j ≠ x → a ≠ 0 → ¬ (258 ≤ a ∧ a ≤ 262) → G3 a j = G a j := fun a j q1 q2 q3 => by
        rw [h a j (by omega) (by omega) (by omega), z2 _ _ (by omega) (by omega), u3 _ _ (by omega) (by omega) (by omega)]
      refine ⟨fun c hc1 hc2 => ?_, hxf, fun c hc => ?_, ?_, ?_⟩
      · unfold cOf
        rw [hall _ _ hc2 (by omega) (by omega), hall _ _ hc2 (by omega) (by omega)]
      · have hcx : c ≠ x := by omega
        obtain ⟨⟨r1, r2, r3, r4⟩, r5, r6⟩ := h5 c hc
        unfold rV1 rRo
        rw [hall _ _ hcx (by omega) (by omega), hall _ _ hcx (by omega) (by omega), hall _ _ hcx (by omega) (by omega), hall _ _ hcx (by omega) (by omega), hall _ _ hcx (by omega) (by omega), hall _ _ hcx (by omega) (by omega), hall _ _ hcx (by omega) (by omega), hall _ _ hcx (by omega) (by omega), hall _ _ hcx (by omega) (by omega)]
        exact ⟨⟨r1, r2, r3, r4⟩, r5, r6⟩
      · obtain ⟨r1, r2, r3, r4⟩ := u2
        have w : ∀ a, 263 ≤ a → a ≤ 266 → G3 a x = G1 a x := fun a _ _ => by
          rw [h a x (by omega) (by omega) (by omega), z2 _ _ (by omega) (by omega)]
        exact ⟨by rw [w _ (by decide) (by decide), w _ (by decide) (by decide)]; exact r1, by rw [w _ (by decide) (by decide)]; exact r2, r3, by rw [w _ (by decide) (by decide)]; exact r4⟩
      · rw [h _ _ (by omega) (by omega) (by omega), h _ _ (by omega) (by omega) (by omega), z9, z0]
        exact u2.1
    by_cases h0 : K x = 0
    · let G3 := xup2 (xup2 (xup2 G2 267 x 1) (o + 17) x 0) (o + 20) x 0
      obtain ⟨b1, b2, b3, b4, b5⟩ := base G3 (fun a j q1 q2 q3 => by
        show xup2 _ _ _ _ _ _ = _
        rw [xup2_n (by omega), xup2_n (by omega), xup2_n (by omega)])
      have y7 : G3 267 x = 1 := by
        show xup2 _ _ _ _ _ _ = _
        rw [xup2_n (by omega), xup2_n (by omega), xup2_s]
      have y17 : G3 (o + 17) x = 0 := by
        show xup2 _ _ _ _ _ _ = _
        rw [xup2_n (by omega), xup2_s]
      have y20 : G3 (o + 20) x = 0 := xup2_s _ _ _ _
      obtain ⟨G', k1, k2, k3, k4, k5⟩ := ih (x + 1) fu G3 (by omega) (by omega) (h3.ge ho b2) (fun c hc => by
        by_cases d : c = x
        · rw [d]
          exact .inl ⟨y17, y20⟩
        · rw [b1 c hc d]
          exact h4 c hc) (fun c hc => by
        by_cases d : c = x
        · rw [d]
          exact ⟨b4, b5, .inr ⟨y7, hn.mpr h0, y17, y20⟩⟩
        · exact b3 c (by omega))
      refine ⟨G', ?_, k2, k3, k4, b2.tr k5⟩
      rw [e0, k15, h0, if_neg (fun q => q rfl), e57 1 (.inr rfl), if_neg (by decide)]
      exact k1
    · let G3 := xup2 G2 267 x 0
      obtain ⟨b1, b2, b3, b4, b5⟩ := base G3 (fun a j q1 q2 q3 => by
        show xup2 _ _ _ _ _ _ = _
        rw [xup2_n (by omega)])
      have y7 : G3 267 x = 0 := xup2_s _ _ _ _
      have y17 : ∀ a, a = o + 17 ∨ a = o + 20 → G3 a x = G a x := fun a q => by
        show xup2 _ _ _ _ _ _ = _
        rw [xup2_n (by omega), z2 _ _ (by omega) (by omega), u3 _ _ (by omega) (by omega) (by omega)]
      obtain ⟨G', k1, k2, k3, k4, k5⟩ := ih (x + 1) fu G3 (by omega) (by omega) (h3.ge ho b2) (fun c hc => by
        by_cases d : c = x
        · have hh := h4 x hx
          rw [d]
          unfold cOf at hh ⊢
          rw [y17 _ (.inl rfl), y17 _ (.inr rfl)]
          exact hh
        · rw [b1 c hc d]
          exact h4 c hc) (fun c hc => by
        by_cases d : c = x
        · rw [d]
          exact ⟨b4, b5, .inl ⟨y7, fun q => h0 (hn.mp q)⟩⟩
        · exact b3 c (by omega))
      refine ⟨G', ?_, k2, k3, k4, b2.tr k5⟩
      rw [e0, k15, if_pos (by omega), e57 0 (.inl rfl), if_pos rfl]
      exact k1
/-- the closure of what CELLS read -/
def rFa8 (G : xG_) (A : Nat → Nat) : Prop := ∀ c, c < 72 → rM8 (G 269 c) (G 270 c) (A c)
def xfA8 (G G' : xG_) : Prop := ∀ a j, ¬ (a = 269 ∨ a = 270) → G' a j = G a j
theorem qW1_s (A : Nat → Nat) (x i : Nat) : qW1 A x i x = A x := by
  unfold qW1
  split
  · exact Nat.or_self _
  · rfl
theorem l_346_90 {r82 : Nat → Int → xG_ → Option xG_} {A : Nat → Nat} {x : Nat} (hx : x < 72) : ∀ (k i fu : Nat) (G : xG_), i + k = 72 → k < fu → rFa8 G (qW1 A x i) →
    ∃ G', g346_90 r82 f fu o (x : Int) (i : Int) G = r82 o ((x + 1 : Nat) : Int) G' ∧ rFa8 G' (qW1 A x 72) ∧ xfA8 G G' := by
  intro k
  induction k with
  | zero =>
    intro i fu G h1 h2 h3
    obtain ⟨fu, rfl⟩ : ∃ t, fu = t + 1 := ⟨fu - 1, by omega⟩
    have hi : i = 72 := by omega
    subst hi
    have e : xwr ((x : Int) + 1) = ((x + 1 : Nat) : Int) := by rw [xwr_g _ (by omega) (by omega)]; omega
    refine ⟨G, ?_, h3, fun _ _ _ => rfl⟩
    show g346_90b r82 (g346_90 r82 f fu) f _ _ _ _ = _
    unfold g346_90b
    rw [if_pos (by omega), e]
  | succ k ih =>
    intro i fu G h1 h2 h3
    obtain ⟨fu, rfl⟩ : ∃ t, fu = t + 1 := ⟨fu - 1, by omega⟩
    have hi : i < 72 := by omega
    have hi2 : 0 ≤ (i : Int) ∧ (i : Int) < 72 := by omega
    have hx2 : 0 ≤ (x : Int) ∧ (x : Int) < 72 := by omega
    have e : xwr ((i : Int) + 1) = ((i + 1 : Nat) : Int) := by rw [xwr_g _ (by omega) (by omega)]; omega
    have hi3 := h3 i hi
    have hx3 := h3 x hx
    have ei : qW1 A x i i = A i := by
      unfold qW1
      rw [if_neg (fun q => absurd q.1 (Nat.lt_irrefl i))]
    rw [ei] at hi3
    rw [qW1_s] at hx3
    have en : ∀ c, c ≠ i → qW1 A x (i + 1) c = qW1 A x i c := fun c hc => by
      unfold qW1
      by_cases d : c < i
      · by_cases d2 : (A c).testBit x = true
        · rw [if_pos ⟨by omega, d2⟩, if_pos ⟨d, d2⟩]
        · rw [if_neg (fun q => d2 q.2), if_neg (fun q => d2 q.2)]
      · rw [if_neg (fun q => by omega), if_neg (fun q => d q.1)]
    have e0 : g346_90 r82 f (fu + 1) o (x : Int) (i : Int) G = g346_90b r82 (g346_90 r82 f fu) f o (x : Int) (i : Int) G := rfl
    by_cases c : (A i).testBit x = true
    · let G2 := xup2 (xup2 G 269 i (xor8 (G 269 i) (G 269 x))) 270 i (xor8 (G 270 i) (G 270 x))
      have ee : qW1 A x (i + 1) i = A i ||| A x := by
        unfold qW1
        rw [if_pos ⟨Nat.lt_succ_self i, c⟩]
      obtain ⟨G', k1, k2, k3⟩ := ih (i + 1) fu G2 (by omega) (by omega) (fun y hy => by
        by_cases d : y = i
        · rw [d, ee]
          show rM8 (xup2 _ _ _ _ _ _) (xup2 _ _ _ _ _ _) _
          rw [xup2_n (by omega), xup2_s, xup2_s]
          exact hi3.or hx3
        · rw [en y d]
          show rM8 (xup2 _ _ _ _ _ _) (xup2 _ _ _ _ _ _) _
          rw [xup2_n (by omega), xup2_n (by omega), xup2_n (by omega), xup2_n (by omega)]
          exact h3 y hy)
      refine ⟨G', ?_, k2, fun a j q => by
        rw [k3 a j q]
        show xup2 _ _ _ _ _ _ = _
        rw [xup2_n (by omega), xup2_n (by omega)]⟩
      have s1 : ¬ ((if (A i).testBit x = true then (1 : Int) else 0, G) : Int × xG_).1 = 0 := by
        rw [if_pos c]; show ¬ (1 : Int) = 0; decide
      rw [e0]
      unfold g346_90b g346_148
      rw [if_neg (by omega), if_pos hi2, if_pos hi2, Int.toNat_natCast, l_343 hi3 hx, Option.bind_some, if_pos s1, if_pos hi2, if_pos hx2, if_pos hi2, Int.toNat_natCast, Option.bind_some, if_pos hi2, if_pos hx2, if_pos hi2, Option.bind_some, e]
      simp only []
      rw [xup2_n (by omega : ¬ (270 = 269 ∧ i = i)), xup2_n (by omega : ¬ (270 = 269 ∧ x = i))]
      exact k1
    · have ee : qW1 A x (i + 1) i = A i := by
        unfold qW1
        rw [if_neg (fun q => c q.2)]
      obtain ⟨G', k1, k2, k3⟩ := ih (i + 1) fu G (by omega) (by omega) (fun y hy => by
        by_cases d : y = i
        · rw [d, ee]; exact hi3
        · rw [en y d]; exact h3 y hy)
      refine ⟨G', ?_, k2, k3⟩
      have s1 : ¬ ¬ ((if (A i).testBit x = true then (1 : Int) else 0, G) : Int × xG_).1 = 0 := by
        rw [if_neg c]; exact fun q => q rfl
      rw [e0]
      unfold g346_90b g346_148
      rw [if_neg (by omega), if_pos hi2, if_pos hi2, Int.toNat_natCast, l_343 hi3 hx, Option.bind_some, if_neg s1, e]
      exact k1
theorem l_346_82 {A : Nat → Nat} (hf : 100 < f) : ∀ (k x fu : Nat) (G : xG_), x + k = 72 → k < fu → rFa8 G (qWm 72 A x) →
    ∃ G', g346_82 f fu o (x : Int) G = g346_162 f f o 0 G' ∧ rFa8 G' (qWm 72 A 72) ∧ xfA8 G G' := by
  intro k
  induction k with
  | zero =>
    intro x fu G h1 h2 h3
    obtain ⟨fu, rfl⟩ : ∃ t, fu = t + 1 := ⟨fu - 1, by omega⟩
    have hx : x = 72 := by omega
    subst hx
    refine ⟨G, ?_, h3, fun _ _ _ => rfl⟩
    show g346_82b (g346_82 f fu) f _ _ _ = _
    unfold g346_82b
    rw [if_pos (by omega)]
  | succ k ih =>
    intro x fu G h1 h2 h3
    obtain ⟨fu, rfl⟩ : ∃ t, fu = t + 1 := ⟨fu - 1, by omega⟩
    have hw0 : rFa8 G (qW1 (qWm 72 A x) x 0) := fun c hc => by
      have : qW1 (qWm 72 A x) x 0 c = qWm 72 A x c := by
        unfold qW1
        rw [if_neg (fun q => absurd q.1 (Nat.not_lt_zero c))]
      rw [this]
      exact h3 c hc
    obtain ⟨G1, u1, u2, u3⟩ := l_346_90 (f := f) (o := o) (r82 := g346_82 f fu) (x := x) (by omega) 72 0 f G rfl (by omega) hw0
    obtain ⟨G', k1, k2, k3⟩ := ih (x + 1) fu G1 (by omega) (by omega) u2
    refine ⟨G', ?_, k2, fun a j q => (k3 a j q).trans (u3 a j q)⟩
    show g346_82b (g346_82 f fu) f _ _ _ = _
    unfold g346_82b
    rw [if_neg (by omega)]
    exact u1.trans k1
end
end
section
/-! valueCells: rings, then each CELL behind those that it reads -/
section
variable {f o m : Nat} {T : List (List Int)} {K : Nat → Nat} {s : pPg} {M : Nat → List pRw}
/-- c's readings and whether it is worked; what is worked is right -/
def rV2 (G : xG_) (o : Nat) (X : fXs) (s : pPg) (M : Nat → List pRw) (c : Nat) : Prop := rRo G c (xRd X c) (xRo X s c) (xRn X c) ∧ (G 267 c = 0 ∧ X c ≠ none ∧ ¬ xCy X c ∨ G 267 c = 1 ∧ cOf G o c = fSh X s M c)
/-- only c's worth, and what is known of it, has changed -/
theorem l_346_162 {X : fXs} (hf : 100 < f) (ho : 122 < o ∧ o < 211) (hX : okX X) : ∀ (k x fu : Nat) (G : xG_), x + k = 72 → k < fu → rFa8 G (xFr X) → okC (cOf G o) → (∀ c, c < x → rV2 G o X s M c) → (∀ c, x ≤ c → c < 72 → rRo G c (xRd X c) (xRo X s c) (xRn X c) ∧ (G 267 c = 0 ∧ X c ≠ none ∨ G 267 c = 1 ∧ X c = none ∧ G (o + 17) c = 0 ∧ G (o + 20) c = 0)) →
    ∃ G', g346_162 f fu o (x : Int) G = g346_221 f f o 1 G' ∧ okC (cOf G' o) ∧ (∀ c, c < 72 → rV2 G' o X s M c) ∧ xfV o G G' := by
  intro k
  induction k with
  | zero =>
    intro x fu G h1 h2 h3 h4 h5 h6
    obtain ⟨fu, rfl⟩ : ∃ t, fu = t + 1 := ⟨fu - 1, by omega⟩
    have hx : x = 72 := by omega
    subst hx
    refine ⟨G, ?_, h4, h5, .rf G⟩
    show g346_162b (g346_162 f fu) f _ _ _ = _
    unfold g346_162b
    rw [if_pos (by omega)]
  | succ k ih =>
    intro x fu G h1 h2 h3 h4 h5 h6
    obtain ⟨fu, rfl⟩ : ∃ t, fu = t + 1 := ⟨fu - 1, by omega⟩
    have hx : x < 72 := by omega
    have hx2 : 0 ≤ (x : Int) ∧ (x : Int) < 72 := by omega
    have e : xwr ((x : Int) + 1) = ((x + 1 : Nat) : Int) := by rw [xwr_g _ (by omega) (by omega)]; omega
    have e0 : g346_162 f (fu + 1) o (x : Int) G = g346_162b (g346_162 f fu) f o (x : Int) G := rfl
    obtain ⟨r1, r2⟩ := h6 x (Nat.le_refl x) hx
    have hfix := fSh_fix (s := s) (M := M) hX hx
    unfold qCv at hfix
    rcases r2 with ⟨r2, r3⟩ | ⟨r2, r3, r4, r5⟩
    · have s0 : ¬ ¬ G 267 x = 0 := fun q => q r2
      cases hxc : X x with
      | none => exact absurd hxc r3
      | some en =>
        rw [hxc] at hfix
        by_cases cy : xCy X x
        · have hfix' : fSh X s M x = (2, 1) := by
            rw [hfix]
            show (if xCy X x then _ else _) = _
            rw [if_pos cy]
          let G2 := xup2 (xup2 (xup2 G 267 x 1) (o + 17) x 2) (o + 20) x 1
          have z : ∀ a j, ¬ (a = 267 ∧ j = x) → ¬ (a = o + 17 ∧ j = x) → ¬ (a = o + 20 ∧ j = x) → G2 a j = G a j := fun a j q1 q2 q3 => by
            show xup2 _ _ _ _ _ _ = _
            rw [xup2_n (by omega), xup2_n (by omega), xup2_n (by omega)]
          have y7 : G2 267 x = 1 := by
            show xup2 _ _ _ _ _ _ = _
            rw [xup2_n (by omega), xup2_n (by omega), xup2_s]
          have y17 : G2 (o + 17) x = 2 := by
            show xup2 _ _ _ _ _ _ = _
            rw [xup2_n (by omega), xup2_s]
          have y20 : G2 (o + 20) x = 1 := xup2_s _ _ _ _
          have yc : cOf G2 o x = (2, 1) := by unfold cOf; rw [y17, y20]
          have yo : ∀ c, c ≠ x → cOf G2 o c = cOf G o c := fun c hc => by unfold cOf; rw [z _ _ (by omega) (by omega) (by omega), z _ _ (by omega) (by omega) (by omega)]
          have yr : ∀ c, rRo G c (xRd X c) (xRo X s c) (xRn X c) → rRo G2 c (xRd X c) (xRo X s c) (xRn X c) := fun c q => by
            unfold rRo
            rw [z _ _ (by omega) (by omega) (by omega), z _ _ (by omega) (by omega) (by omega), z _ _ (by omega) (by omega) (by omega), z _ _ (by omega) (by omega) (by omega)]
            exact q
          obtain ⟨G', k1, k2, k3, k4⟩ := ih (x + 1) fu G2 (by omega) (by omega) (fun c hc => by rw [z _ _ (by omega) (by omega) (by omega), z _ _ (by omega) (by omega) (by omega)]; exact h3 c hc) (fun c hc => by
            by_cases d : c = x
            · rw [d, yc]; exact .inr (.inr ⟨rfl, by decide, by decide⟩)
            · rw [yo c d]; exact h4 c hc) (fun c hc => by
            by_cases d : c = x
            · rw [d]
              exact ⟨yr x r1, .inr ⟨y7, by rw [yc, hfix']⟩⟩
            · obtain ⟨q1, q2⟩ := h5 c (by omega)
              refine ⟨yr c q1, ?_⟩
              rw [yo c d, z _ _ (by omega) (by omega) (by omega)]
              exact q2) (fun c hc1 hc2 => by
            obtain ⟨q1, q2⟩ := h6 c (by omega) hc2
            refine ⟨yr c q1, ?_⟩
            rw [z _ _ (by omega) (by omega) (by omega), z _ _ (by omega) (by omega) (by omega), z _ _ (by omega) (by omega) (by omega)]
            exact q2)
          refine ⟨G', ?_, k2, k3, fun a j q1 q2 q3 q4 q5 => by rw [k4 a j q1 q2 q3 q4 q5]; exact z _ _ (by omega) (by omega) (by omega)⟩
          have s1 : ¬ ((if (xFr X x).testBit x = true then (1 : Int) else 0, G) : Int × xG_).1 = 0 := by
            rw [if_pos (show (xFr X x).testBit x = true from cy)]; show ¬ (1 : Int) = 0; decide
          rw [e0]
          unfold g346_162b g346_213
          rw [if_neg (by omega), if_pos hx2, Int.toNat_natCast, if_neg s0, if_pos hx2, if_pos hx2, l_343 (h3 x hx) hx, Option.bind_some, if_pos s1, if_pos hx2, Option.bind_some, l_348 hx, Option.bind_some, e]
          exact k1
        · obtain ⟨G', k1, k2, k3, k4⟩ := ih (x + 1) fu G (by omega) (by omega) h3 h4 (fun c hc => by
            by_cases d : c = x
            · rw [d]
              exact ⟨r1, .inl ⟨r2, r3, cy⟩⟩
            · exact h5 c (by omega)) (fun c hc1 hc2 => h6 c (by omega) hc2)
          refine ⟨G', ?_, k2, k3, k4⟩
          have s1 : ¬ ¬ ((if (xFr X x).testBit x = true then (1 : Int) else 0, G) : Int × xG_).1 = 0 := by
            rw [if_neg (show ¬ (xFr X x).testBit x = true from cy)]; exact fun q => q rfl
          rw [e0]
          unfold g346_162b g346_213
          rw [if_neg (by omega), if_pos hx2, Int.toNat_natCast, if_neg s0, if_pos hx2, if_pos hx2, l_343 (h3 x hx) hx, Option.bind_some, if_neg s1, e]
          exact k1
    · rw [r3] at hfix
      obtain ⟨G', k1, k2, k3, k4⟩ := ih (x + 1) fu G (by omega) (by omega) h3 h4 (fun c hc => by
        by_cases d : c = x
        · rw [d]
          refine ⟨r1, .inr ⟨r2, ?_⟩⟩
          unfold cOf
          rw [r4, r5, hfix]
        · exact h5 c (by omega)) (fun c hc1 hc2 => h6 c (by omega) hc2)
      refine ⟨G', ?_, k2, k3, k4⟩
      rw [e0]
      unfold g346_162b g346_213
      rw [if_neg (by omega), if_pos hx2, Int.toNat_natCast, if_pos (by omega), e]
      exact k1
/-- waits -/
theorem l_347 {G : xG_} {A c : Nat} (hc : c < 72) (hm : rM8 (G 263 c) (G 264 c) A) : ∀ (k x fu : Nat), x + k = 72 → k < fu →
    ∃ w, g347_2 f fu (c : Int) (x : Int) G = some (w, G) ∧ (w = 0 ↔ ∀ y, x ≤ y → y < 72 → A.testBit y = true → G 267 y ≠ 0) := by
  intro k
  induction k with
  | zero =>
    intro x fu h1 h2
    obtain ⟨fu, rfl⟩ : ∃ t, fu = t + 1 := ⟨fu - 1, by omega⟩
    refine ⟨0, ?_, fun _ y y1 y2 => by omega, fun _ => rfl⟩
    show g347_2b (g347_2 f fu) f _ _ _ = _
    unfold g347_2b
    rw [if_pos (by omega)]
  | succ k ih =>
    intro x fu h1 h2
    obtain ⟨fu, rfl⟩ : ∃ t, fu = t + 1 := ⟨fu - 1, by omega⟩
    have hx2 : 0 ≤ (x : Int) ∧ (x : Int) < 72 := by omega
    have hc2 : 0 ≤ (c : Int) ∧ (c : Int) < 72 := by omega
    have e : xwr ((x : Int) + 1) = ((x + 1 : Nat) : Int) := by rw [xwr_g _ (by omega) (by omega)]; omega
    obtain ⟨w, k1, k2⟩ := ih (x + 1) fu (by omega) (by omega)
    have e0 : g347_2 f (fu + 1) (c : Int) (x : Int) G = g347_2b (g347_2 f fu) f (c : Int) (x : Int) G := rfl
    have go : (A.testBit x = true → G 267 x ≠ 0) → (w = 0 ↔ ∀ y, x ≤ y → y < 72 → A.testBit y = true → G 267 y ≠ 0) := fun q => by
      rw [k2]
      constructor
      · intro h y y1 y2 y3
        by_cases d : y = x
        · rw [d] at y3 ⊢; exact q y3
        · exact h y (by omega) y2 y3
      · intro h y y1 y2 y3
        exact h y (by omega) y2 y3
    by_cases c1 : A.testBit x = true
    · have s1 : ¬ ((if A.testBit x = true then (1 : Int) else 0, G) : Int × xG_).1 = 0 := by
        rw [if_pos c1]; show ¬ (1 : Int) = 0; decide
      by_cases d : G 267 x = 0
      · refine ⟨1, ?_, fun q => absurd q (by decide), fun q => absurd d (q x (Nat.le_refl x) (by omega) c1)⟩
        rw [e0]
        unfold g347_2b
        rw [if_neg (by omega), if_pos hc2, if_pos hc2, Int.toNat_natCast, l_343 hm (by omega), Option.bind_some, if_neg s1, if_pos hx2, Int.toNat_natCast, if_neg (fun q => q d)]
      · refine ⟨w, ?_, go (fun _ => d)⟩
        rw [e0]
        unfold g347_2b g347_38
        rw [if_neg (by omega), if_pos hc2, if_pos hc2, Int.toNat_natCast, l_343 hm (by omega), Option.bind_some, if_neg s1, if_pos hx2, Int.toNat_natCast, if_pos d, e]
        exact k1
    · have s1 : ((if A.testBit x = true then (1 : Int) else 0, G) : Int × xG_).1 = 0 := by
        rw [if_neg c1]
      refine ⟨w, ?_, go (fun q => absurd q c1)⟩
      rw [e0]
      unfold g347_2b g347_38
      rw [if_neg (by omega), if_pos hc2, if_pos hc2, Int.toNat_natCast, l_343 hm (by omega), Option.bind_some, if_pos s1, e]
      exact k1
/-- valueCell -/
def xfVc (o c : Nat) (G G' : xG_) : Prop := ∀ a j, ¬ (a = 0 ∧ (j ≤ 11 ∨ j = 21 ∨ j = 25 ∨ j = 42 ∨ 89 ≤ j ∧ j ≤ 91)) → ¬ (258 ≤ a ∧ a ≤ 262) → ¬ (a = 267 ∧ j = c) → ¬ (a = o + 17 ∧ j = c) → ¬ (a = o + 20 ∧ j = c) → G' a j = G a j
theorem l_349 {G : xG_} {c : Nat} (hf : 3100 < f) (ho : 122 < o ∧ o < 211) (hc : c < 72) (he : eSh G o T m K s M) (hM : okM s M) (hn2 : ∀ p, p < s.1.length → 0 ≤ pNn s.2.2.2.1 (p : Int)) (hC : okC (cOf G o)) (h0 : K c ≠ 0) :
    ∃ e G', xOf T K c = some e ∧ g349 f o (c : Int) G = some G' ∧ cOf G' o c = wCv (fWr e.1 e.2 (cOf G o) s M) ∧ G' 267 c = 1 ∧ xfVc o c G G' := by
  have hc2 : 0 ≤ (c : Int) ∧ (c : Int) < 72 := by omega
  obtain ⟨e, G1, x1, x2, x3, x4, x5, x6, x7, x8⟩ := l_341 hf hc he.1 he.2.1 he.2.2.1 h0
  let G2 := xup2 G1 0 91 0
  have z2 : ∀ a j, ¬ (a = 0 ∧ j = 91) → G2 a j = G1 a j := fun a j q => xup2_n (by omega)
  have g2 : ∀ a j, ¬ (a = 0 ∧ (j ≤ 11 ∨ j = 21 ∨ j = 25 ∨ 89 ≤ j ∧ j ≤ 91)) → ¬ (258 ≤ a ∧ a ≤ 262) → G2 a j = G a j := fun a j q1 q2 => by
    rw [z2 _ _ (by omega), x8 _ _ (by omega) q2]
  have hfm : eFm G2 o e.1 (cOf G o) s M := ⟨x3.ge (z2 _ _ (by omega)) (fun a j _ _ => z2 _ _ (by omega)), fun x hx => by
    rw [g2 _ _ (by omega) (by omega), g2 _ _ (by omega) (by omega)]
    exact ⟨rfl, rfl⟩, he.2.2.2.1.ge' (g2 _ _ (by omega) (by omega)) (fun j => g2 _ _ (by omega) (by omega)), fun y hy => by rw [g2 _ _ (by omega) (by omega)]; exact he.2.2.2.2.1 y hy, he.2.2.2.2.2.ge (fun a j _ _ => g2 _ _ (by omega) (by omega))⟩
  obtain ⟨v, G3, w1, w2, w3⟩ := l_350 (f := f) (G := G2) (by omega) (by omega) x4 x5 hC hM hn2 ⟨x6, x7⟩ hfm (xup2_s _ _ _ _)
  have hl5 : ∀ p, p < s.1.length → (M p).length ≤ 520 := fun p hp => (he.2.2.2.2.2 p hp).1.2.1
  have hok : okW (fWr e.1 e.2 (cOf G o) s M) := fW_ok x4 hC hM hl5 64 e.2.toNat (by omega) (by omega)
  have fin : ∀ (kd val : Int), xfVc o c G (xup2 (xup2 (xup2 G3 (o + 17) c kd) (o + 20) c val) 267 c 1) ∧ cOf (xup2 (xup2 (xup2 G3 (o + 17) c kd) (o + 20) c val) 267 c 1) o c = (kd, val) := fun kd val => by
    constructor
    · intro a j q1 q2 q3 q4 q5
      rw [xup2_n (by omega), xup2_n (by omega), xup2_n (by omega), w2 _ _ (by omega), g2 _ _ (by omega) q2]
    · unfold cOf
      rw [xup2_n (by omega), xup2_n (by omega), xup2_s, xup2_n (by omega), xup2_s]
  have e51 : ∀ (kd val : Int), g349_51 f (c : Int) val kd (c : Int) o G3 = some (xup2 (xup2 (xup2 G3 (o + 17) c kd) (o + 20) c val) 267 c 1) := fun kd val => by
    unfold g349_51
    rw [l_348 hc, Option.bind_some, if_pos hc2, Option.bind_some]
    rfl
  have e0 : g349 f o (c : Int) G = (if ¬ (G3 0 91) = 0 then g349_34 f (c : Int) v 2 (c : Int) o G3 else g349_34 f (c : Int) v 1 (c : Int) o G3) := by
    unfold g349
    rw [x2, Option.bind_some, Option.bind_some]
    show (g350 f o e.2 G2).bind _ = _
    rw [w1, Option.bind_some]
  cases hr : fWr e.1 e.2 (cOf G o) s M with
  | inl er =>
    rw [hr] at w3 hok
    have y1 : G3 0 91 = er := w3
    have y2 : 1 ≤ er ∧ er ≤ 4 := hok
    obtain ⟨f1, f2⟩ := fin 2 er
    refine ⟨e, _, x1, ?_, by rw [f2, hr]; rfl, xup2_s _ _ _ _, f1⟩
    rw [e0, if_pos (by omega)]
    unfold g349_34
    rw [if_pos (by omega), y1, e51]
  | inr va =>
    rw [hr] at w3 hok
    obtain ⟨y1, y2⟩ : G3 0 91 = 0 ∧ v = va := w3
    obtain ⟨f1, f2⟩ := fin 1 va
    refine ⟨e, _, x1, ?_, by rw [f2, hr]; rfl, xup2_s _ _ _ _, f1⟩
    rw [e0, if_neg (fun q => q y1)]
    unfold g349_34
    rw [if_neg (fun q => q y1), e51, y2]
/-- how many CELLS below k are not worked yet -/
def uct (G : xG_) : Nat → Nat
  | 0 => 0
  | k + 1 => uct G k + if G 267 k = 0 then 1 else 0
theorem uct_eq {G G' : xG_} : ∀ k, (∀ c, c < k → G' 267 c = G 267 c) → uct G' k = uct G k
  | 0, _ => rfl
  | k + 1, h => by
    unfold uct
    rw [uct_eq k (fun c hc => h c (by omega)), h k (by omega)]
theorem uct_lt {G G' : xG_} {x : Nat} (h1 : ∀ c, c ≠ x → G' 267 c = G 267 c) (h2 : G 267 x = 0) (h3 : G' 267 x = 1) : ∀ k, x < k → uct G' k < uct G k
  | 0, h => absurd h (Nat.not_lt_zero x)
  | k + 1, h => by
    unfold uct
    by_cases c : x = k
    · have := uct_eq (G := G) (G' := G') k (fun y hy => h1 y (by omega))
      rw [← c] at this ⊢
      rw [this, if_pos h2, if_neg (by omega)]
      omega
    · have := uct_lt h1 h2 h3 k (by omega)
      rw [h1 k (by omega)]
      omega
theorem uct_le (G : xG_) : ∀ k, uct G k ≤ k
  | 0 => Nat.le_refl _
  | k + 1 => by
    have := uct_le G k
    unfold uct
    split <;> omega
theorem l_346_229 {r221 : Nat → Int → xG_ → Option xG_} (hf : 3100 < f) (ho : 122 < o ∧ o < 211) (hM : okM s M) (hn2 : ∀ p, p < s.1.length → 0 ≤ pNn s.2.2.2.1 (p : Int)) : ∀ (k x fu : Nat) (fl : Int) (G : xG_), x + k = 72 → k < fu → eSh G o T m K s M → okC (cOf G o) → (∀ c, c < 72 → rV2 G o (xOf T K) s M c) →
    ∃ fl' G', g346_229 r221 f fu o fl (x : Int) G = r221 o fl' G' ∧ eSh G' o T m K s M ∧ okC (cOf G' o) ∧ (∀ c, c < 72 → rV2 G' o (xOf T K) s M c) ∧ xfV o G G' ∧ uct G' 72 ≤ uct G 72 ∧ (fl' = 0 → fl = 0 ∧ G' = G ∧ ∀ c, x ≤ c → c < 72 → G 267 c = 0 → ∃ y, y < 72 ∧ (xRd (xOf T K) c).testBit y = true ∧ G 267 y = 0) ∧ (fl' ≠ 0 → fl ≠ 0 ∨ uct G' 72 < uct G 72) := by
  intro k
  induction k with
  | zero =>
    intro x fu fl G h1 h2 h3 h4 h5
    obtain ⟨fu, rfl⟩ : ∃ t, fu = t + 1 := ⟨fu - 1, by omega⟩
    refine ⟨fl, G, ?_, h3, h4, h5, .rf G, Nat.le_refl _, fun q => ⟨q, rfl, fun c c1 c2 => by omega⟩, fun q => .inl q⟩
    show g346_229b r221 (g346_229 r221 f fu) f _ _ _ _ = _
    unfold g346_229b
    rw [if_pos (by omega)]
  | succ k ih =>
    intro x fu fl G h1 h2 h3 h4 h5
    obtain ⟨fu, rfl⟩ : ∃ t, fu = t + 1 := ⟨fu - 1, by omega⟩
    have hx : x < 72 := by omega
    have hx2 : 0 ≤ (x : Int) ∧ (x : Int) < 72 := by omega
    have e : xwr ((x : Int) + 1) = ((x + 1 : Nat) : Int) := by rw [xwr_g _ (by omega) (by omega)]; omega
    have e0 : g346_229 r221 f (fu + 1) o fl (x : Int) G = g346_229b r221 (g346_229 r221 f fu) f o fl (x : Int) G := rfl
    have hX : okX (xOf T K) := okX_of h3.1 h3.2.1 h3.2.2.1
    -- nothing is done here
    have pass : (G 267 x = 0 → ∃ y, y < 72 ∧ (xRd (xOf T K) x).testBit y = true ∧ G 267 y = 0) → g346_229 r221 f (fu + 1) o fl (x : Int) G = g346_229 r221 f fu o fl ((x + 1 : Nat) : Int) G → ∃ fl' G', g346_229 r221 f (fu + 1) o fl (x : Int) G = r221 o fl' G' ∧ eSh G' o T m K s M ∧ okC (cOf G' o) ∧ (∀ c, c < 72 → rV2 G' o (xOf T K) s M c) ∧ xfV o G G' ∧ uct G' 72 ≤ uct G 72 ∧ (fl' = 0 → fl = 0 ∧ G' = G ∧ ∀ c, x ≤ c → c < 72 → G 267 c = 0 → ∃ y, y < 72 ∧ (xRd (xOf T K) c).testBit y = true ∧ G 267 y = 0) ∧ (fl' ≠ 0 → fl ≠ 0 ∨ uct G' 72 < uct G 72) := fun hp hs => by
      obtain ⟨fl', G', k1, k2, k3, k4, k5, k6, k7, k8⟩ := ih (x + 1) fu fl G (by omega) (by omega) h3 h4 h5
      refine ⟨fl', G', by rw [hs]; exact k1, k2, k3, k4, k5, k6, fun q => ?_, k8⟩
      obtain ⟨q1, q2, q3⟩ := k7 q
      refine ⟨q1, q2, fun c c1 c2 c3 => ?_⟩
      by_cases d : c = x
      · rw [d] at c3 ⊢; exact hp c3
      · exact q3 c (by omega) c2 c3
    obtain ⟨r1, r2⟩ := h5 x hx
    by_cases d : G 267 x = 0
    · obtain ⟨w, w1, w2⟩ := l_347 (f := f) (G := G) hx r1.1 72 0 f rfl (by omega)
      have w1' : g347 f (x : Int) G = some (w, G) := w1
      have hnr : xOf T K x ≠ none ∧ ¬ xCy (xOf T K) x := by
        rcases r2 with q | q
        · exact q.2
        · rw [d] at q; exact absurd q.1 (by decide)
      by_cases c : w = 0
      · have hK : K x ≠ 0 := fun q => hnr.1 ((xOf_is h3.2.2.1 hx).mpr q)
        obtain ⟨en, G1, v1, v2, v3, v4, v5⟩ := l_349 hf ho hx h3 hM hn2 h4 hK
        have hxf : xfV o G G1 := fun a j q1 q2 q3 q4 q5 => v5 a j q1 (by omega) (by omega) (by omega) (by omega)
        have oth : ∀ c, c ≠ x → cOf G1 o c = cOf G o c := fun c hc => by
          unfold cOf
          rw [v5 _ _ (by omega) (by omega) (by omega) (by omega) (by omega), v5 _ _ (by omega) (by omega) (by omega) (by omega) (by omega)]
        have hrd : xRd (xOf T K) x = nRd en.1 := by unfold xRd; rw [v1]
        obtain ⟨o1, o2, o3, o4⟩ := hX x hx en v1
        have hval : cOf G1 o x = fSh (xOf T K) s M x := by
          rw [v3, fSh_fix hX hx]
          unfold qCv
          rw [v1]
          show _ = (if xCy (xOf T K) x then _ else _)
          rw [if_neg hnr.2]
          refine congrArg wCv (fWr_l o1 o2 ⟨o3, o4⟩ (fun y y1 y2 => ?_))
          have y3 := w2.mp c y (Nat.zero_le y) y1 (by rw [hrd]; exact y2)
          rcases (h5 y y1).2 with q | q
          · exact absurd q.1 y3
          · exact q.2
        have hl5 : ∀ p, p < s.1.length → (M p).length ≤ 520 := fun p hp => (h3.2.2.2.2.2 p hp).1.2.1
        have hlt := uct_lt (G := G) (G' := G1) (x := x) (fun c hc => v5 _ _ (by omega) (by omega) (by omega) (by omega) (by omega)) d v4 72 hx
        obtain ⟨fl', G', k1, k2, k3, k4, k5, k6, k7, k8⟩ := ih (x + 1) fu 1 G1 (by omega) (by omega) (h3.ge ho hxf) (fun c hc => by
          by_cases q : c = x
          · rw [q, hval]; exact fSh_ok hX hM hl5 x hx
          · rw [oth c q]; exact h4 c hc) (fun c hc => by
          obtain ⟨q1, q2⟩ := h5 c hc
          have q3 : rRo G1 c (xRd (xOf T K) c) (xRo (xOf T K) s c) (xRn (xOf T K) c) := by
            unfold rRo
            rw [v5 _ _ (by omega) (by omega) (by omega) (by omega) (by omega), v5 _ _ (by omega) (by omega) (by omega) (by omega) (by omega), v5 _ _ (by omega) (by omega) (by omega) (by omega) (by omega), v5 _ _ (by omega) (by omega) (by omega) (by omega) (by omega)]
            exact q1
          refine ⟨q3, ?_⟩
          by_cases q : c = x
          · rw [q]; exact .inr ⟨v4, hval⟩
          · rw [oth c q, v5 _ _ (by omega) (by omega) (by omega) (by omega) (by omega)]
            exact q2)
        refine ⟨fl', G', ?_, k2, k3, k4, hxf.tr k5, by omega, fun q => absurd (k7 q).1 (by decide), fun _ => .inr (by omega)⟩
        rw [e0]
        unfold g346_229b g346_263
        rw [if_neg (by omega), if_pos hx2, Int.toNat_natCast, if_neg (fun q => q d), w1', Option.bind_some, if_pos c, v2, Option.bind_some, e]
        exact k1
      · refine pass (fun _ => ?_) ?_
        · have hh : ¬ ∀ y, 0 ≤ y → y < 72 → (xRd (xOf T K) x).testBit y = true → G 267 y ≠ 0 := fun q => c (w2.mpr q)
          obtain ⟨y, hy⟩ := Classical.not_forall.mp hh
          obtain ⟨_, hy⟩ := Classical.not_imp.mp hy
          obtain ⟨y1, hy⟩ := Classical.not_imp.mp hy
          obtain ⟨y2, hy⟩ := Classical.not_imp.mp hy
          exact ⟨y, y1, y2, Classical.not_not.mp hy⟩
        · rw [e0]
          unfold g346_229b g346_263
          rw [if_neg (by omega), if_pos hx2, Int.toNat_natCast, if_neg (fun q => q d), w1', Option.bind_some, if_neg c, e]
    · refine pass (fun q => absurd q d) ?_
      rw [e0]
      unfold g346_229b g346_263
      rw [if_neg (by omega), if_pos hx2, Int.toNat_natCast, if_pos d, e]
theorem l_346_221 (hf : 3100 < f) (ho : 122 < o ∧ o < 211) (hM : okM s M) (hn2 : ∀ p, p < s.1.length → 0 ≤ pNn s.2.2.2.1 (p : Int)) : ∀ (n fu : Nat) (G : xG_), uct G 72 < n → n < fu → eSh G o T m K s M → okC (cOf G o) → (∀ c, c < 72 → rV2 G o (xOf T K) s M c) →
    ∃ G', g346_221 f fu o 1 G = some G' ∧ eSh G' o T m K s M ∧ (∀ c, c < 72 → rRo G' c (xRd (xOf T K) c) (xRo (xOf T K) s c) (xRn (xOf T K) c)) ∧ rCs G' o (fSh (xOf T K) s M) ∧ xfV o G G' := by
  intro n
  induction n with
  | zero => intro fu G h; omega
  | succ n ih =>
    intro fu G h1 h2 h3 h4 h5
    obtain ⟨fu, rfl⟩ : ∃ t, fu = t + 1 := ⟨fu - 1, by omega⟩
    have hX : okX (xOf T K) := okX_of h3.1 h3.2.1 h3.2.2.1
    obtain ⟨fl', G1, k1, k2, k3, k4, k5, k6, k7, k8⟩ := l_346_229 (f := f) (r221 := g346_221 f fu) hf ho hM hn2 72 0 f 0 G rfl (by omega) h3 h4 h5
    have e0 : g346_221 f (fu + 1) o 1 G = g346_221 f fu o fl' G1 := by
      show g346_221b (g346_221 f fu) f o 1 G = _
      unfold g346_221b
      rw [if_neg (by decide)]
      exact k1
    by_cases c : fl' = 0
    · obtain ⟨q1, q2, q3⟩ := k7 c
      obtain ⟨fu, rfl⟩ : ∃ t, fu = t + 1 := ⟨fu - 1, by omega⟩
      have all : ∀ c, c < 72 → G 267 c ≠ 0 := fun y hy hy0 => by
        obtain ⟨x, x1, x2, x3⟩ := sh_next hX (D := fun c => G 267 c ≠ 0) (fun c hc hr q => by
          rcases (h5 c hc).2 with u | u
          · exact u.2.2 hr
          · rw [q] at u; exact absurd u.1 (by decide)) 73 y hy (fun q => q hy0) (by have := nct_k (xFr (xOf T K) y) 72; omega)
        obtain ⟨z, z1, z2, z3⟩ := q3 x (Nat.zero_le x) x1 (Classical.not_not.mp x2)
        exact x3 z z1 z2 z3
      refine ⟨G1, ?_, k2, fun c hc => (k4 c hc).1, fun c hc => ?_, k5⟩
      · rw [e0, c]
        show g346_221b (g346_221 f fu) f o 0 G1 = _
        unfold g346_221b
        rw [if_pos rfl]
      · rw [q2]
        rcases (h5 c hc).2 with u | u
        · exact absurd u.1 (all c hc)
        · have := u.2
          unfold cOf at this
          rw [← this]
          exact ⟨rfl, rfl⟩
    · have hlt : uct G1 72 < uct G 72 := by
        rcases k8 c with q | q
        · exact absurd rfl q
        · exact q
      have e1 : g346_221 f fu o fl' G1 = g346_221 f fu o 1 G1 := by
        obtain ⟨fu, rfl⟩ : ∃ t, fu = t + 1 := ⟨fu - 1, by omega⟩
        show g346_221b (g346_221 f fu) f o fl' G1 = g346_221b (g346_221 f fu) f o 1 G1
        unfold g346_221b
        rw [if_neg c, if_neg (by decide)]
      obtain ⟨G', u1, u2, u3, u4, u5⟩ := ih fu G1 (by omega) (by omega) k2 k3 k4
      exact ⟨G', by rw [e0, e1]; exact u1, u2, u3, u4, k5.tr u5⟩
/-- valueCells -/
theorem l_346 {G : xG_} (hf : 3100 < f) (ho : 122 < o ∧ o < 211) (hM : okM s M) (hn2 : ∀ p, p < s.1.length → 0 ≤ pNn s.2.2.2.1 (p : Int)) (he : eSh G o T m K s M) (hC : okC (cOf G o)) :
    ∃ G', g346 f o G = some G' ∧ eSh G' o T m K s M ∧ (∀ c, c < 72 → rRo G' c (xRd (xOf T K) c) (xRo (xOf T K) s c) (xRn (xOf T K) c)) ∧ rCs G' o (fSh (xOf T K) s M) ∧ xfV o G G' := by
  have hX : okX (xOf T K) := okX_of he.1 he.2.1 he.2.2.1
  obtain ⟨G1, a1, a2, a3, a4, a5⟩ := l_346_2 hf ho 72 0 f G rfl (by omega) he hC (fun c hc => absurd hc (Nat.not_lt_zero c))
  obtain ⟨G2, b1, b2, b3⟩ := l_346_82 (f := f) (o := o) (A := xRd (xOf T K)) (by omega) 72 0 f G1 rfl (by omega) (fun c hc => (a4 c hc).2.1)
  have w : xfV o G1 G2 := fun a j q1 q2 q3 q4 q5 => b3 a j q3
  obtain ⟨G3, c1, c2, c3, c4⟩ := l_346_162 (f := f) (s := s) (M := M) (by omega) ho hX 72 0 f G2 rfl (by omega) b2 (fun c hc => by
    have hh := a3 c hc
    unfold cOf at hh ⊢
    rw [b3 _ _ (by omega), b3 _ _ (by omega)]
    exact hh) (fun c hc => absurd hc (Nat.not_lt_zero c)) (fun c _ hc => by
    obtain ⟨q1, q2, q3⟩ := a4 c hc
    refine ⟨?_, ?_⟩
    · unfold rRo
      rw [b3 _ _ (by omega), b3 _ _ (by omega), b3 _ _ (by omega), b3 _ _ (by omega)]
      exact q1
    · rw [b3 _ _ (by omega), b3 _ _ (by omega), b3 _ _ (by omega)]
      exact q3)
  have h03 := (a5.tr w).tr c4
  obtain ⟨G4, d1, d2, d3, d4, d5⟩ := l_346_221 hf ho hM hn2 73 f G3 (by have := uct_le G3 72; omega) (by omega) (he.ge ho h03) c2 c3
  refine ⟨G4, ?_, d2, d3, d4, h03.tr d5⟩
  show g346_2 f f o ((0 : Nat) : Int) G = _
  rw [a1]
  show g346_82 f f o ((0 : Nat) : Int) G1 = _
  rw [b1]
  show g346_162 f f o ((0 : Nat) : Int) G2 = _
  rw [c1]
  exact d1
end
end
section
/-! workCells: the SHEET of a round -/
/-- the log of CELLS told in a round -/
def cgN (rd : Int) (K : Nat → Nat) (W : Nat → Int) : Nat → List pCg
  | 0 => []
  | x + 1 => cgN rd K W x ++ (if W x = -1 then [] else [(rd, (x : Int), (K x : Int))])
theorem cgN_len (rd : Int) (K : Nat → Nat) (W : Nat → Int) : ∀ x, (cgN rd K W x).length ≤ x
  | 0 => Nat.le_refl _
  | x + 1 => by
    have := cgN_len rd K W x
    unfold cgN
    rw [List.length_append]
    split
    · simp only [List.length_nil]; omega
    · simp only [List.length_singleton]; omega
def kNx (K : Nat → Nat) (W : Nat → Int) (x c : Nat) : Nat := if c < x ∧ W c ≠ -1 then (W c).toNat else K c
/-- the texts that are told for CELLS: -1 none, 0 empty -/
def rNt (G : xG_) (o : Nat) (T : List (List Int)) (W : Nat → Int) : Prop := ∀ c, c < 72 → G (o + 26) c = W c ∧ (W c = -1 ∨ 0 ≤ W c ∧ (W c).toNat < T.length ∧ ((W c).toNat ≠ 0 → ∃ r, qCt (T.getD (W c).toNat []) = .inr r ∧ r.1 = (c : Int) ∧ r.2.2 ≠ -1))
theorem rKt.nx {G G' : xG_} {o x : Nat} {T : List (List Int)} {K : Nat → Nat} {W : Nat → Int} (h : rKt G o T K) (hW : rNt G o T W) (hk : ∀ c, c < 72 → G' (o + 15) c = (kNx K W x c : Int)) : rKt G' o T (kNx K W x) := by
  intro c hc
  refine ⟨hk c hc, ?_⟩
  unfold kNx
  by_cases d : c < x ∧ W c ≠ -1
  · rw [if_pos d]
    rcases (hW c hc).2 with q | q
    · exact absurd q d.2
    · exact q.2
  · rw [if_neg d]
    exact (h c hc).2
theorem xl268 : ((xl_t 268).2.2 : Int) = 72 := by decide +kernel
theorem len16 {o h : Nat} (hh : h < 4) (ho : o = 123 + 29 * h) : ((xl_t (o + 16)).2.2 : Int) = 72 := by
  obtain rfl | rfl | rfl | rfl : h = 0 ∨ h = 1 ∨ h = 2 ∨ h = 3 := by omega
  all_goals (subst ho; decide +kernel)
section
variable {f o h : Nat} {T : List (List Int)} {K : Nat → Nat} {W : Nat → Int} {C : fCs} {L : List pCg} {rd fr : Int}
def rWs (G : xG_) (C : fCs) (W : Nat → Int) (c : Nat) : Prop := G 251 c = (C c).1 ∧ G 252 c = (C c).2 ∧ G 268 c = (if W c = -1 then 0 else 1)
theorem l_354_2 (ho : 122 < o ∧ o < 211) (hL : L.length ≤ 100) (hW1 : ∀ c, c < 72 → W c = -1 ∨ 0 ≤ W c) : ∀ (k x fu : Nat) (G : xG_), x + k = 72 → k < fu → (∀ c, c < x → rWs G C W c) → rCs G o C → rCg G o (L ++ cgN rd K W x) → (∀ c, c < 72 → G (o + 15) c = (kNx K W x c : Int)) → (∀ c, c < 72 → G (o + 26) c = W c) → G o 2 = rd →
    ∃ G', g354_2 f fu o fr (x : Int) G = ((g346 f o G').bind fun R172 => g354_138 f f o fr 0 R172) ∧ (∀ c, c < 72 → rWs G' C W c) ∧ rCg G' o (L ++ cgN rd K W 72) ∧ (∀ c, c < 72 → G' (o + 15) c = (kNx K W 72 c : Int)) ∧ ∀ a j, a ≠ 251 → a ≠ 252 → a ≠ 268 → ¬ (a = o ∧ j = 16) → ¬ (o + 10 ≤ a ∧ a ≤ o + 12) → a ≠ o + 15 → G' a j = G a j := by
  intro k
  induction k with
  | zero =>
    intro x fu G h1 h2 h3 h4 h5 h6 h7 h8
    obtain ⟨fu, rfl⟩ : ∃ t, fu = t + 1 := ⟨fu - 1, by omega⟩
    have hx : x = 72 := by omega
    subst hx
    refine ⟨G, ?_, h3, h5, h6, fun _ _ _ _ _ _ _ _ => rfl⟩
    show g354_2b (g354_2 f fu) f _ _ _ _ = _
    unfold g354_2b
    rw [if_pos (by omega)]
  | succ k ih =>
    intro x fu G h1 h2 h3 h4 h5 h6 h7 h8
    obtain ⟨fu, rfl⟩ : ∃ t, fu = t + 1 := ⟨fu - 1, by omega⟩
    have hx : x < 72 := by omega
    have hx2 : 0 ≤ (x : Int) ∧ (x : Int) < 72 := by omega
    have e : xwr ((x : Int) + 1) = ((x + 1 : Nat) : Int) := by rw [xwr_g _ (by omega) (by omega)]; omega
    obtain ⟨c1, c2⟩ := h4 x hx
    have hcl := cgN_len rd K W x
    have hll : (L ++ cgN rd K W x).length ≤ 171 := by rw [List.length_append]; omega
    have kx : kNx K W x x = K x := by
      unfold kNx
      rw [if_neg (fun q => absurd q.1 (Nat.lt_irrefl x))]
    have kn : ∀ c, c ≠ x → kNx K W (x + 1) c = kNx K W x c := fun c hc => by
      unfold kNx
      by_cases d : c < x ∧ W c ≠ -1
      · rw [if_pos d, if_pos ⟨by omega, d.2⟩]
      · rw [if_neg d, if_neg (fun q => d ⟨by omega, q.2⟩)]
    let G2 := xup2 (xup2 G 251 x (C x).1) 252 x (C x).2
    have e0 : g354_2 f (fu + 1) o fr (x : Int) G = (if W x = -1 then g354_52 (g354_2 f fu) f o fr (x : Int) 0 (x : Int) 268 G2 else g354_52 (g354_2 f fu) f o fr (x : Int) 1 (x : Int) 268 G2) := by
      show g354_2b (g354_2 f fu) f o fr (x : Int) G = _
      unfold g354_2b
      rw [if_neg (by omega), if_pos hx2, if_pos hx2, Int.toNat_natCast, c1, Option.bind_some, if_pos hx2, if_pos hx2, xup2_n (by omega), c2, Option.bind_some, if_pos hx2, xup2_n (by omega), xup2_n (by omega), h7 x hx]
    have z2 : ∀ a j, ¬ (a = 251 ∧ j = x) → ¬ (a = 252 ∧ j = x) → G2 a j = G a j := fun a j q1 q2 => by
      show xup2 _ _ _ _ _ _ = _
      rw [xup2_n (by omega), xup2_n (by omega)]
    have y1 : G2 251 x = (C x).1 := by
      show xup2 _ _ _ _ _ _ = _
      rw [xup2_n (by omega), xup2_s]
    have y2 : G2 252 x = (C x).2 := xup2_s _ _ _ _
    by_cases c : W x = -1
    · let G3 := xup2 G2 268 x 0
      have z3 : ∀ a j, ¬ (a = 268 ∧ j = x) → G3 a j = G2 a j := fun a j q => xup2_n (by omega)
      have zz : ∀ a j, ¬ (a = 251 ∧ j = x) → ¬ (a = 252 ∧ j = x) → ¬ (a = 268 ∧ j = x) → G3 a j = G a j := fun a j q1 q2 q3 => by rw [z3 _ _ q3, z2 _ _ q1 q2]
      obtain ⟨G', k1, k2, k3, k4, k5⟩ := ih (x + 1) fu G3 (by omega) (by omega) (fun y hy => by
        by_cases d : y = x
        · rw [d]
          refine ⟨by rw [z3 _ _ (by omega)]; exact y1, by rw [z3 _ _ (by omega)]; exact y2, ?_⟩
          rw [if_pos c]
          exact xup2_s _ _ _ _
        · obtain ⟨q1, q2, q3⟩ := h3 y (by omega)
          exact ⟨by rw [zz _ _ (by omega) (by omega) (by omega)]; exact q1, by rw [zz _ _ (by omega) (by omega) (by omega)]; exact q2, by rw [zz _ _ (by omega) (by omega) (by omega)]; exact q3⟩) (fun y hy => by
        rw [zz _ _ (by omega) (by omega) (by omega), zz _ _ (by omega) (by omega) (by omega)]
        exact h4 y hy) (by
        unfold cgN
        rw [if_pos c, List.append_nil]
        exact h5.ge (zz _ _ (by omega) (by omega) (by omega)) (fun a j _ _ => zz _ _ (by omega) (by omega) (by omega))) (fun y hy => by
        rw [zz _ _ (by omega) (by omega) (by omega), h6 y hy]
        by_cases d : y = x
        · rw [d]
          unfold kNx
          rw [if_neg (fun q => q.2 c), if_neg (fun q => q.2 c)]
        · rw [kn y d]) (fun y hy => by
        rw [zz _ _ (by omega) (by omega) (by omega)]; exact h7 y hy) (by rw [zz _ _ (by omega) (by omega) (by omega)]; exact h8)
      refine ⟨G', ?_, k2, k3, k4, fun a j q1 q2 q3 q4 q5 q6 => by rw [k5 a j q1 q2 q3 q4 q5 q6]; exact zz _ _ (by omega) (by omega) (by omega)⟩
      rw [e0, if_pos c]
      unfold g354_52 g354_125
      rw [xl268, if_pos ⟨hx2.1, hx2.2, .inl rfl⟩, Option.bind_some, if_pos hx2, Int.toNat_natCast, xup2_s, if_neg (fun q => q rfl), e]
      exact k1
    · obtain ⟨r1, r2, r3⟩ := h5
      let G3 := xup2 G2 268 x 1
      have z3 : ∀ a j, ¬ (a = 268 ∧ j = x) → G3 a j = G2 a j := fun a j q => xup2_n (by omega)
      let n := (L ++ cgN rd K W x).length
      have hn : n = (L ++ cgN rd K W x).length := rfl
      have hn2 : 0 ≤ (n : Int) ∧ (n : Int) < 200 := by omega
      let G4 := xup2 (xup2 (xup2 (xup2 (xup2 G3 (o + 10) n rd) (o + 11) n (x : Int)) (o + 12) n (K x : Int)) o 16 ((n + 1 : Nat) : Int)) (o + 15) x (W x)
      have zz : ∀ a j, ¬ (a = 251 ∧ j = x) → ¬ (a = 252 ∧ j = x) → ¬ (a = 268 ∧ j = x) → ¬ (a = o ∧ j = 16) → ¬ (o + 10 ≤ a ∧ a ≤ o + 12 ∧ j = n) → ¬ (a = o + 15 ∧ j = x) → G4 a j = G a j := fun a j q1 q2 q3 q4 q5 q6 => by
        show xup2 _ _ _ _ _ _ = _
        rw [xup2_n (by omega), xup2_n (by omega), xup2_n (by omega), xup2_n (by omega), xup2_n (by omega), z3 _ _ q3, z2 _ _ q1 q2]
      have hwx : 0 ≤ W x := by
        rcases hW1 x hx with q | q
        · exact absurd q c
        · exact q
      have p10 : G4 (o + 10) n = rd := by
        show xup2 _ _ _ _ _ _ = _
        rw [xup2_n (by omega), xup2_n (by omega), xup2_n (by omega), xup2_n (by omega), xup2_s]
      have p11 : G4 (o + 11) n = (x : Int) := by
        show xup2 _ _ _ _ _ _ = _
        rw [xup2_n (by omega), xup2_n (by omega), xup2_n (by omega), xup2_s]
      have p12 : G4 (o + 12) n = (K x : Int) := by
        show xup2 _ _ _ _ _ _ = _
        rw [xup2_n (by omega), xup2_n (by omega), xup2_s]
      have p16 : G4 o 16 = ((n + 1 : Nat) : Int) := by
        show xup2 _ _ _ _ _ _ = _
        rw [xup2_n (by omega), xup2_s]
      have p15 : G4 (o + 15) x = W x := xup2_s _ _ _ _
      have n3 : ∀ a, a = 251 ∨ a = 252 ∨ a = 268 → ∀ j, G4 a j = G3 a j := fun a q j => by
        show xup2 _ _ _ _ _ _ = _
        rw [xup2_n (by omega), xup2_n (by omega), xup2_n (by omega), xup2_n (by omega), xup2_n (by omega)]
      obtain ⟨G', k1, k2, k3, k4, k5⟩ := ih (x + 1) fu G4 (by omega) (by omega) (fun y hy => by
        by_cases d : y = x
        · rw [d]
          refine ⟨by rw [n3 _ (by omega), z3 _ _ (by omega)]; exact y1, by rw [n3 _ (by omega), z3 _ _ (by omega)]; exact y2, ?_⟩
          rw [n3 _ (by omega), if_neg c]
          exact xup2_s _ _ _ _
        · obtain ⟨q1, q2, q3⟩ := h3 y (by omega)
          exact ⟨by rw [zz _ _ (by omega) (by omega) (by omega) (by omega) (by omega) (by omega)]; exact q1, by rw [zz _ _ (by omega) (by omega) (by omega) (by omega) (by omega) (by omega)]; exact q2, by rw [zz _ _ (by omega) (by omega) (by omega) (by omega) (by omega) (by omega)]; exact q3⟩) (fun y hy => by
        rw [zz _ _ (by omega) (by omega) (by omega) (by omega) (by omega) (by omega), zz _ _ (by omega) (by omega) (by omega) (by omega) (by omega) (by omega)]
        exact h4 y hy) (by
        unfold cgN
        rw [if_neg c, ← List.append_assoc]
        refine ⟨by rw [p16, List.length_append, List.length_singleton], by rw [List.length_append, List.length_singleton]; omega, fun i hi => ?_⟩
        rw [List.length_append, List.length_singleton] at hi
        rw [getD_1]
        by_cases d : i = n
        · rw [if_pos d, d, p10, p11, p12]
          exact ⟨rfl, rfl, rfl⟩
        · rw [if_neg d, zz _ _ (by omega) (by omega) (by omega) (by omega) (by omega) (by omega), zz _ _ (by omega) (by omega) (by omega) (by omega) (by omega) (by omega), zz _ _ (by omega) (by omega) (by omega) (by omega) (by omega) (by omega)]
          exact r3 i (by omega)) (fun y hy => by
        by_cases d : y = x
        · rw [d, p15]
          unfold kNx
          rw [if_pos ⟨Nat.lt_succ_self x, c⟩]
          omega
        · rw [zz _ _ (by omega) (by omega) (by omega) (by omega) (by omega) (by omega), kn y d]
          exact h6 y hy) (fun y hy => by
        rw [zz _ _ (by omega) (by omega) (by omega) (by omega) (by omega) (by omega)]; exact h7 y hy) (by rw [zz _ _ (by omega) (by omega) (by omega) (by omega) (by omega) (by omega)]; exact h8)
      refine ⟨G', ?_, k2, k3, k4, fun a j q1 q2 q3 q4 q5 q6 => by rw [k5 a j q1 q2 q3 q4 q5 q6]; exact zz _ _ (by omega) (by omega) (by omega) (by omega) (by omega) (by omega)⟩
      have s16 : ∀ a j, ¬ (a = 268 ∧ j = x) → ¬ (a = 251 ∧ j = x) → ¬ (a = 252 ∧ j = x) → G3 a j = G a j := fun a j q1 q2 q3 => by rw [z3 _ _ q1, z2 _ _ q2 q3]
      have s1 : G3 o 16 = (n : Int) := by rw [s16 _ _ (by omega) (by omega) (by omega)]; exact r1
      have s2 : G3 o 2 = rd := by rw [s16 _ _ (by omega) (by omega) (by omega)]; exact h8
      have s3 : G3 (o + 15) x = (K x : Int) := by rw [s16 _ _ (by omega) (by omega) (by omega), h6 x hx, kx]
      have s4 : G3 (o + 26) x = W x := by rw [s16 _ _ (by omega) (by omega) (by omega)]; exact h7 x hx
      have e16 : xwr ((n : Int) + 1) = ((n + 1 : Nat) : Int) := by rw [xwr_g _ (by omega) (by omega)]; omega
      rw [e0, if_neg c]
      unfold g354_52 g354_125
      rw [xl268, if_pos ⟨hx2.1, hx2.2, .inr rfl⟩, Option.bind_some, if_pos hx2, Int.toNat_natCast, xup2_s, if_pos (by decide)]
      show (if 0 ≤ G3 o 16 ∧ G3 o 16 < 200 then ((some (xup2 G3 (o + 10) (G3 o 16).toNat (G3 o 2))).bind _) else none) = _
      rw [s1, s2, if_pos hn2, Int.toNat_natCast, Option.bind_some]
      rw [xup2_n (by omega), s1, if_pos hn2, Int.toNat_natCast, Option.bind_some, if_pos hx2, xup2_n (by omega), xup2_n (by omega), s1, if_pos hn2, Int.toNat_natCast, xup2_n (by omega), xup2_n (by omega), s3, Option.bind_some, xup2_n (by omega), xup2_n (by omega), xup2_n (by omega), s1, e16, Option.bind_some, if_pos hx2, if_pos hx2, xup2_n (by omega), xup2_n (by omega), xup2_n (by omega), xup2_n (by omega), s4, Option.bind_some, e]
      exact k1
end
end
section
/-! workCells: which CELLS are worked -/
section
variable {f o h : Nat} {X : fXs} {s : pPg} {W : Nat → Int} {C D : fCs} {H : Nat → Prop} {fr : Int}
/-- CELL c is worked in a round: C before, D behind; H the predicates whose rows have changed -/
def qCw (X : fXs) (s : pPg) (fr : Prop) (W : Nat → Int) (C D : fCs) (H : Nat → Prop) (c : Nat) : Prop := X c ≠ none ∧ (W c ≠ -1 ∨ (fr ∧ xRn X c = true) ∨ (∃ x, x < 72 ∧ (xRd X c).testBit x = true ∧ D x ≠ C x) ∨ ∃ p, p < s.1.length ∧ (xRo X s c).testBit p = true ∧ H p)
def eWk (G : xG_) (o : Nat) (X : fXs) (s : pPg) (W : Nat → Int) (C D : fCs) (H : Nat → Prop) : Prop := (∀ c, c < 72 → rWs G C W c) ∧ (∀ c, c < 72 → rRo G c (xRd X c) (xRo X s c) (xRn X c)) ∧ rCs G o D ∧ G 2 8 = (s.1.length : Int) ∧ s.1.length ≤ 16 ∧ (∀ p, p < 16 → (G (o + 19) p = 1 ↔ H p)) ∧ ∀ c, c < 72 → (G (o + 15) c = 0 ↔ X c = none)
theorem eWk.up {G : xG_} {c : Nat} {v : Int} (h : eWk G o X s W C D H) (ho : 122 < o ∧ o < 211) : eWk (xup2 G (o + 16) c v) o X s W C D H := by
  obtain ⟨a1, a2, a3, a4, a5, a6, a7⟩ := h
  have z : ∀ a j, a ≠ o + 16 → xup2 G (o + 16) c v a j = G a j := fun a j q => xup2_n (by omega)
  refine ⟨fun y hy => ?_, fun y hy => ?_, fun y hy => ?_, by rw [z _ _ (by omega)]; exact a4, a5, fun p hp => by rw [z _ _ (by omega)]; exact a6 p hp, fun y hy => by rw [z _ _ (by omega)]; exact a7 y hy⟩
  · unfold rWs
    rw [z _ _ (by omega), z _ _ (by omega), z _ _ (by omega)]
    exact a1 y hy
  · unfold rRo
    rw [z _ _ (by omega), z _ _ (by omega), z _ _ (by omega), z _ _ (by omega)]
    exact a2 y hy
  · rw [z _ _ (by omega), z _ _ (by omega)]
    exact a3 y hy
theorem l_354_271 {G : xG_} {r138 : Nat → Int → Int → xG_ → Option xG_} {c : Nat} (hh : h < 4) (ho : o = 123 + 29 * h) (hc : c < 72) (he : eWk G o X s W C D H) (hW : 0 ≤ G (o + 16) c ∧ G (o + 16) c < 1000000) : ∀ (d p fu : Nat) (ac : Int), p + d = s.1.length → d < fu →
    ∃ w : Int, g354_271 r138 f fu o fr (c : Int) ac (p : Int) G = r138 o fr ((c + 1 : Nat) : Int) (xup2 G (o + 16) c (G (o + 16) c + w)) ∧ (w = 0 ∨ w = 1) ∧ (w = 0 ↔ ac = 0 ∧ ∀ y, p ≤ y → y < s.1.length → ¬ ((xRo X s c).testBit y = true ∧ H y)) := by
  obtain ⟨a1, a2, a3, a4, a5, a6, a7⟩ := he
  have hc2 : 0 ≤ (c : Int) ∧ (c : Int) < 72 := by omega
  intro d
  induction d with
  | zero =>
    intro p fu ac h1 h2
    obtain ⟨fu, rfl⟩ : ∃ t, fu = t + 1 := ⟨fu - 1, by omega⟩
    have e : xwr ((c : Int) + 1) = ((c + 1 : Nat) : Int) := by rw [xwr_g _ (by omega) (by omega)]; omega
    have e344 : ∀ w : Int, w = 0 ∨ w = 1 → g354_344 r138 f o fr (c : Int) w (G (o + 16) c) (c : Int) (o + 16) G = r138 o fr ((c + 1 : Nat) : Int) (xup2 G (o + 16) c (G (o + 16) c + w)) := fun w hw => by
      unfold g354_344 g354_346
      rw [len16 hh ho, if_pos hc2, Int.toNat_natCast, Option.bind_some, xwr_g (G (o + 16) c + w) (by omega) (by omega), e]
    by_cases q : ac = 0
    · refine ⟨0, ?_, .inl rfl, fun _ => ⟨q, fun y y1 y2 => by omega⟩, fun _ => rfl⟩
      show g354_271b r138 (g354_271 r138 f fu) f _ _ _ _ _ _ = _
      unfold g354_271b
      rw [a4, if_pos (by omega), if_pos hc2, if_pos q, Int.toNat_natCast, e344 0 (.inl rfl)]
    · refine ⟨1, ?_, .inr rfl, fun z => absurd z (by decide), fun z => absurd z.1 q⟩
      show g354_271b r138 (g354_271 r138 f fu) f _ _ _ _ _ _ = _
      unfold g354_271b
      rw [a4, if_pos (by omega), if_pos hc2, if_neg q, Int.toNat_natCast, e344 1 (.inr rfl)]
  | succ d ih =>
    intro p fu ac h1 h2
    obtain ⟨fu, rfl⟩ : ∃ t, fu = t + 1 := ⟨fu - 1, by omega⟩
    have e : xwr ((p : Int) + 1) = ((p + 1 : Nat) : Int) := by rw [xwr_g _ (by omega) (by omega)]; omega
    obtain ⟨r1, r2, r3, r4⟩ := a2 c hc
    have hb := xbit (a := xRo X s c) (m := p) (Nat.lt_of_lt_of_le r3 (by decide)) (by omega)
    have hp := a6 p (by omega)
    have st : ∀ {a : Int}, (a = 0 ↔ ac = 0 ∧ ¬ ((xRo X s c).testBit p = true ∧ H p)) → g354_271 r138 f (fu + 1) o fr (c : Int) ac (p : Int) G = g354_271 r138 f fu o fr (c : Int) a ((p + 1 : Nat) : Int) G → ∃ w : Int, g354_271 r138 f (fu + 1) o fr (c : Int) ac (p : Int) G = r138 o fr ((c + 1 : Nat) : Int) (xup2 G (o + 16) c (G (o + 16) c + w)) ∧ (w = 0 ∨ w = 1) ∧ (w = 0 ↔ ac = 0 ∧ ∀ y, p ≤ y → y < s.1.length → ¬ ((xRo X s c).testBit y = true ∧ H y)) := fun {a} ha hs => by
      obtain ⟨w, k1, k2, k3⟩ := ih (p + 1) fu a (by omega) (by omega)
      refine ⟨w, by rw [hs]; exact k1, k2, ?_⟩
      rw [k3, ha]
      constructor
      · rintro ⟨⟨q1, q2⟩, q3⟩
        refine ⟨q1, fun y y1 y2 => ?_⟩
        by_cases c : y = p
        · rw [c]; exact q2
        · exact q3 y (by omega) y2
      · rintro ⟨q1, q2⟩
        exact ⟨⟨q1, q2 p (by omega) (by omega)⟩, fun y y1 y2 => q2 y (by omega) y2⟩
    have e0 : g354_271 r138 f (fu + 1) o fr (c : Int) ac (p : Int) G = g354_271b r138 (g354_271 r138 f fu) f o fr (c : Int) ac (p : Int) G := rfl
    by_cases c0 : ac = 0
    · have n1 : ¬ ¬ ac = 0 := fun q => q c0
      by_cases c2 : (xRo X s c).testBit p = true
      · have n2 : ¬ ¬ xand (xshr ((xRo X s c : Nat) : Int) (p : Int)) 1 = 1 := fun q => q (hb.mpr c2)
        by_cases c3 : H p
        · have n3 : ¬ ¬ G (o + 19) p = 1 := fun q => q (hp.mpr c3)
          refine st (a := 1) ⟨fun q => absurd q (by decide), fun q => absurd ⟨c2, c3⟩ q.2⟩ ?_
          rw [e0]
          unfold g354_271b g354_314 g354_319
          rw [a4, if_neg (by omega), if_neg n1, if_pos hc2, Int.toNat_natCast, r2, if_neg n2, if_pos (by omega), Int.toNat_natCast, if_neg n3, e]
        · have n3 : ¬ G (o + 19) p = 1 := fun q => c3 (hp.mp q)
          refine st (a := 0) ⟨fun _ => ⟨c0, fun q => c3 q.2⟩, fun _ => rfl⟩ ?_
          rw [e0]
          unfold g354_271b g354_318 g354_319
          rw [a4, if_neg (by omega), if_neg n1, if_pos hc2, Int.toNat_natCast, r2, if_neg n2, if_pos (by omega), Int.toNat_natCast, if_pos n3, e]
      · have n2 : ¬ xand (xshr ((xRo X s c : Nat) : Int) (p : Int)) 1 = 1 := fun q => c2 (hb.mp q)
        refine st (a := 0) ⟨fun _ => ⟨c0, fun q => c2 q.1⟩, fun _ => rfl⟩ ?_
        rw [e0]
        unfold g354_271b g354_318 g354_319
        rw [a4, if_neg (by omega), if_neg n1, if_pos hc2, Int.toNat_natCast, r2, if_pos n2, e]
    · refine st (a := 1) ⟨fun q => absurd q (by decide), fun q => absurd q.1 c0⟩ ?_
      rw [e0]
      unfold g354_271b g354_314 g354_319
      rw [a4, if_neg (by omega), if_pos c0, e]
theorem l_354_188 {G : xG_} {r138 : Nat → Int → Int → xG_ → Option xG_} {c : Nat} (hf : 100 < f) (hh : h < 4) (ho : o = 123 + 29 * h) (hc : c < 72) (he : eWk G o X s W C D H) (hW : 0 ≤ G (o + 16) c ∧ G (o + 16) c < 1000000) : ∀ (d x fu : Nat) (ac : Int), x + d = 72 → d < fu →
    ∃ w : Int, g354_188 r138 f fu o fr (c : Int) ac (x : Int) G = r138 o fr ((c + 1 : Nat) : Int) (xup2 G (o + 16) c (G (o + 16) c + w)) ∧ (w = 0 ∨ w = 1) ∧ (w = 0 ↔ (ac = 0 ∧ ∀ y, x ≤ y → y < 72 → ¬ ((xRd X c).testBit y = true ∧ D y ≠ C y)) ∧ ∀ y, y < s.1.length → ¬ ((xRo X s c).testBit y = true ∧ H y)) := by
  have he' := he
  obtain ⟨a1, a2, a3, a4, a5, a6, a7⟩ := he
  have hc2 : 0 ≤ (c : Int) ∧ (c : Int) < 72 := by omega
  intro d
  induction d with
  | zero =>
    intro x fu ac h1 h2
    obtain ⟨fu, rfl⟩ : ∃ t, fu = t + 1 := ⟨fu - 1, by omega⟩
    obtain ⟨w, k1, k2, k3⟩ := l_354_271 (f := f) (fr := fr) (r138 := r138) hh ho hc he' hW s.1.length 0 f ac (by omega) (by omega)
    refine ⟨w, ?_, k2, ?_⟩
    · show g354_188b r138 (g354_188 r138 f fu) f _ _ _ _ _ _ = _
      unfold g354_188b
      rw [if_pos (by omega)]
      exact k1
    · rw [k3]
      constructor
      · rintro ⟨q1, q2⟩
        exact ⟨⟨q1, fun y y1 y2 => by omega⟩, fun y hy => q2 y (Nat.zero_le y) hy⟩
      · rintro ⟨q1, q2⟩
        exact ⟨q1.1, fun y _ hy => q2 y hy⟩
  | succ d ih =>
    intro x fu ac h1 h2
    obtain ⟨fu, rfl⟩ : ∃ t, fu = t + 1 := ⟨fu - 1, by omega⟩
    have hx : x < 72 := by omega
    have hx2 : 0 ≤ (x : Int) ∧ (x : Int) < 72 := by omega
    have e : xwr ((x : Int) + 1) = ((x + 1 : Nat) : Int) := by rw [xwr_g _ (by omega) (by omega)]; omega
    obtain ⟨r1, r2, r3, r4⟩ := a2 c hc
    obtain ⟨w1, w2, w3⟩ := a1 x hx
    obtain ⟨d1, d2⟩ := a3 x hx
    have st : ∀ {a : Int}, (a = 0 ↔ ac = 0 ∧ ¬ ((xRd X c).testBit x = true ∧ D x ≠ C x)) → g354_188 r138 f (fu + 1) o fr (c : Int) ac (x : Int) G = g354_188 r138 f fu o fr (c : Int) a ((x + 1 : Nat) : Int) G → ∃ w : Int, g354_188 r138 f (fu + 1) o fr (c : Int) ac (x : Int) G = r138 o fr ((c + 1 : Nat) : Int) (xup2 G (o + 16) c (G (o + 16) c + w)) ∧ (w = 0 ∨ w = 1) ∧ (w = 0 ↔ (ac = 0 ∧ ∀ y, x ≤ y → y < 72 → ¬ ((xRd X c).testBit y = true ∧ D y ≠ C y)) ∧ ∀ y, y < s.1.length → ¬ ((xRo X s c).testBit y = true ∧ H y)) := fun {a} ha hs => by
      obtain ⟨w, k1, k2, k3⟩ := ih (x + 1) fu a (by omega) (by omega)
      refine ⟨w, by rw [hs]; exact k1, k2, ?_⟩
      rw [k3, ha]
      constructor
      · rintro ⟨⟨⟨q1, q2⟩, q3⟩, q4⟩
        refine ⟨⟨q1, fun y y1 y2 => ?_⟩, q4⟩
        by_cases c : y = x
        · rw [c]; exact q2
        · exact q3 y (by omega) y2
      · rintro ⟨⟨q1, q2⟩, q4⟩
        exact ⟨⟨⟨q1, q2 x (by omega) (by omega)⟩, fun y y1 y2 => q2 y (by omega) y2⟩, q4⟩
    have e0 : g354_188 r138 f (fu + 1) o fr (c : Int) ac (x : Int) G = g354_188b r138 (g354_188 r138 f fu) f o fr (c : Int) ac (x : Int) G := rfl
    by_cases c0 : ac = 0
    · have n1 : ¬ ¬ ac = 0 := fun q => q c0
      by_cases c2 : (xRd X c).testBit x = true
      · have s1 : ¬ ((if (xRd X c).testBit x = true then (1 : Int) else 0, G) : Int × xG_).1 = 0 := by
          rw [if_pos c2]; show ¬ (1 : Int) = 0; decide
        by_cases c3 : (D x).1 = (C x).1
        · by_cases c4 : (D x).2 = (C x).2
          · have hdc : D x = C x := Prod.ext c3 c4
            refine st (a := 0) ⟨fun _ => ⟨c0, fun q => q.2 hdc⟩, fun _ => rfl⟩ ?_
            rw [e0]
            unfold g354_188b g354_259 g354_260
            rw [if_neg (by omega), if_neg n1, if_pos hc2, if_pos hc2, Int.toNat_natCast, l_343 r1 hx, Option.bind_some, if_neg s1, if_pos hx2, if_pos hx2]
            simp only [Int.toNat_natCast]
            rw [d1, w1, if_neg (fun q => q c3), if_pos hx2, if_pos hx2, d2, w2, if_pos c4, e]
          · refine st (a := 1) ⟨fun q => absurd q (by decide), fun q => absurd ⟨c2, fun z => c4 (by rw [z])⟩ q.2⟩ ?_
            rw [e0]
            unfold g354_188b g354_255 g354_260
            rw [if_neg (by omega), if_neg n1, if_pos hc2, if_pos hc2, Int.toNat_natCast, l_343 r1 hx, Option.bind_some, if_neg s1, if_pos hx2, if_pos hx2]
            simp only [Int.toNat_natCast]
            rw [d1, w1, if_neg (fun q => q c3), if_pos hx2, if_pos hx2, d2, w2, if_neg c4, e]
        · refine st (a := 1) ⟨fun q => absurd q (by decide), fun q => absurd ⟨c2, fun z => c3 (by rw [z])⟩ q.2⟩ ?_
          rw [e0]
          unfold g354_188b g354_255 g354_260
          rw [if_neg (by omega), if_neg n1, if_pos hc2, if_pos hc2, Int.toNat_natCast, l_343 r1 hx, Option.bind_some, if_neg s1, if_pos hx2, if_pos hx2]
          simp only [Int.toNat_natCast]
          rw [d1, w1, if_pos c3, e]
      · have s1 : ((if (xRd X c).testBit x = true then (1 : Int) else 0, G) : Int × xG_).1 = 0 := by
          rw [if_neg c2]
        refine st (a := 0) ⟨fun _ => ⟨c0, fun q => c2 q.1⟩, fun _ => rfl⟩ ?_
        rw [e0]
        unfold g354_188b g354_259 g354_260
        rw [if_neg (by omega), if_neg n1, if_pos hc2, if_pos hc2, Int.toNat_natCast, l_343 r1 hx, Option.bind_some, if_pos s1, e]
    · refine st (a := 1) ⟨fun q => absurd q (by decide), fun q => absurd q.1 c0⟩ ?_
      rw [e0]
      unfold g354_188b g354_255 g354_260
      rw [if_neg (by omega), if_pos c0, e]
/-- how often CELLS were worked -/
def rWk (G G' : xG_) (o : Nat) (P : Nat → Prop) (x : Nat) : Prop := ∀ c, c < x → (P c ∧ G' (o + 16) c = G (o + 16) c + 1) ∨ (¬ P c ∧ G' (o + 16) c = G (o + 16) c)
theorem l_354_138 (hf : 100 < f) (hh : h < 4) (ho : o = 123 + 29 * h) : ∀ (d c fu : Nat) (G : xG_), c + d = 72 → d < fu → eWk G o X s W C D H → (∀ y, c ≤ y → y < 72 → 0 ≤ G (o + 16) y ∧ G (o + 16) y < 1000000) →
    ∃ G', g354_138 f fu o fr (c : Int) G = some G' ∧ (∀ y, c ≤ y → y < 72 → (qCw X s (fr ≠ 0) W C D H y ∧ G' (o + 16) y = G (o + 16) y + 1) ∨ (¬ qCw X s (fr ≠ 0) W C D H y ∧ G' (o + 16) y = G (o + 16) y)) ∧ ∀ a j, ¬ (a = o + 16 ∧ c ≤ j ∧ j < 72) → G' a j = G a j := by
  intro d
  induction d with
  | zero =>
    intro c fu G h1 h2 he hW
    obtain ⟨fu, rfl⟩ : ∃ t, fu = t + 1 := ⟨fu - 1, by omega⟩
    refine ⟨G, ?_, fun y y1 y2 => by omega, fun _ _ _ => rfl⟩
    show g354_138b (g354_138 f fu) f _ _ _ _ = _
    unfold g354_138b
    rw [if_pos (by omega)]
  | succ d ih =>
    intro c fu G h1 h2 he hW
    obtain ⟨fu, rfl⟩ : ∃ t, fu = t + 1 := ⟨fu - 1, by omega⟩
    have hc : c < 72 := by omega
    have hc2 : 0 ≤ (c : Int) ∧ (c : Int) < 72 := by omega
    have he' := he
    obtain ⟨a1, a2, a3, a4, a5, a6, a7⟩ := he
    have e : xwr ((c : Int) + 1) = ((c + 1 : Nat) : Int) := by rw [xwr_g _ (by omega) (by omega)]; omega
    have e0 : g354_138 f (fu + 1) o fr (c : Int) G = g354_138b (g354_138 f fu) f o fr (c : Int) G := rfl
    by_cases c0 : X c = none
    · obtain ⟨G', k1, k2, k3⟩ := ih (c + 1) fu G (by omega) (by omega) he' (fun y y1 y2 => hW y (by omega) y2)
      refine ⟨G', ?_, fun y y1 y2 => ?_, fun a j q => k3 a j (by omega)⟩
      · rw [e0]
        unfold g354_138b g354_346
        rw [if_neg (by omega), if_pos hc2, Int.toNat_natCast, if_neg (fun q => q ((a7 c hc).mpr c0)), e]
        exact k1
      · by_cases d : y = c
        · rw [d, k3 _ _ (by omega)]
          exact .inr ⟨fun q => q.1 c0, rfl⟩
        · exact k2 y (by omega) y2
    · -- the flag at first
      obtain ⟨ac, f1, f2⟩ : ∃ ac : Int, g354_138b (g354_138 f fu) f o fr (c : Int) G = g354_188 (g354_138 f fu) f f o fr (c : Int) ac 0 G ∧ (ac = 0 ↔ ¬ (W c ≠ -1) ∧ ¬ (fr ≠ 0 ∧ xRn X c = true)) := by
        obtain ⟨w1, w2, w3⟩ := a1 c hc
        obtain ⟨r1, r2, r3, r4⟩ := a2 c hc
        unfold g354_138b g354_178 g354_182 g354_183
        rw [if_neg (by omega), if_pos hc2, Int.toNat_natCast, if_pos (fun q => c0 ((a7 c hc).mp q)), if_pos hc2, w3]
        by_cases q1 : W c = -1
        · rw [if_pos q1, if_neg (fun q => q rfl)]
          by_cases q2 : fr = 0
          · rw [if_pos q2]
            exact ⟨0, rfl, fun _ => ⟨fun z => z q1, fun z => z.1 q2⟩, fun _ => rfl⟩
          · rw [if_neg q2, if_pos hc2, r4]
            cases hx : xRn X c with
            | false =>
              rw [if_pos (show b01 false = 0 from rfl)]
              exact ⟨0, rfl, fun _ => ⟨fun z => z q1, fun z => absurd z.2 (by decide)⟩, fun _ => rfl⟩
            | true =>
              rw [if_neg (show ¬ b01 true = 0 by decide)]
              exact ⟨1, rfl, fun z => absurd z (by decide), fun z => absurd ⟨q2, rfl⟩ z.2⟩
        · rw [if_neg q1, if_pos (by decide)]
          exact ⟨1, rfl, fun z => absurd z (by decide), fun z => absurd q1 z.1⟩
      obtain ⟨w, g1, g2, g3⟩ := l_354_188 (f := f) (fr := fr) (r138 := g354_138 f fu) hf hh ho hc he' (hW c (Nat.le_refl c) hc) 72 0 f ac rfl (by omega)
      have hP : w = 0 ↔ ¬ qCw X s (fr ≠ 0) W C D H c := by
        rw [g3, f2]
        unfold qCw
        constructor
        · rintro ⟨⟨⟨q1, q2⟩, q3⟩, q4⟩ ⟨_, z⟩
          rcases z with z | z | ⟨x, z1, z2, z3⟩ | ⟨p, z1, z2, z3⟩
          · exact q1 z
          · exact q2 z
          · exact q3 x (Nat.zero_le x) z1 ⟨z2, z3⟩
          · exact q4 p z1 ⟨z2, z3⟩
        · intro z
          refine ⟨⟨⟨fun q => z ⟨c0, .inl q⟩, fun q => z ⟨c0, .inr (.inl q)⟩⟩, fun x _ x2 q => z ⟨c0, .inr (.inr (.inl ⟨x, x2, q.1, q.2⟩))⟩⟩, fun p hp q => z ⟨c0, .inr (.inr (.inr ⟨p, hp, q.1, q.2⟩))⟩⟩
      obtain ⟨G', k1, k2, k3⟩ := ih (c + 1) fu (xup2 G (o + 16) c (G (o + 16) c + w)) (by omega) (by omega) (he'.up (by omega)) (fun y y1 y2 => by rw [xup2_n (by omega)]; exact hW y (by omega) y2)
      refine ⟨G', ?_, fun y y1 y2 => ?_, fun a j q => by rw [k3 a j (by omega), xup2_n (by omega)]⟩
      · rw [e0, f1]
        exact g1.trans k1
      · by_cases d : y = c
        · rw [d, k3 _ _ (by omega), xup2_s]
          rcases g2 with z | z
          · exact .inr ⟨hP.mp z, by rw [z]; omega⟩
          · refine .inl ⟨Classical.not_not.mp (fun q => ?_), by rw [z]⟩
            rw [hP.mpr q] at z
            exact absurd z (by decide)
        · have := k2 y (by omega) y2
          rw [xup2_n (by omega)] at this
          exact this
/-- what workCells changes -/
def xfWc (o : Nat) (G G' : xG_) : Prop := ∀ a j, ¬ (a = 0 ∧ (j ≤ 11 ∨ j = 21 ∨ j = 25 ∨ j = 42 ∨ 89 ≤ j ∧ j ≤ 91)) → ¬ (258 ≤ a ∧ a ≤ 270) → a ≠ 251 → a ≠ 252 → ¬ (a = o ∧ j = 16) → ¬ (o + 10 ≤ a ∧ a ≤ o + 12) → ¬ (o + 15 ≤ a ∧ a ≤ o + 17) → a ≠ o + 20 → G' a j = G a j
end
section
variable {f o h m : Nat} {s : pPg} {M : Nat → List pRw} {T : List (List Int)} {K : Nat → Nat} {W : Nat → Int} {C : fCs} {L : List pCg} {rd fr : Int} {H : Nat → Prop}
theorem l_354 {G : xG_} (hf : 3100 < f) (hh : h < 4) (ho : o = 123 + 29 * h) (hM : okM s M) (hn2 : ∀ p, p < s.1.length → 0 ≤ pNn s.2.2.2.1 (p : Int)) (he : eSh G o T m K s M) (hC : okC C) (hr : rCs G o C) (hN : rNt G o T W) (hL : L.length ≤ 100) (hg : rCg G o L) (h2 : G o 2 = rd) (hH : ∀ p, p < 16 → (G (o + 19) p = 1 ↔ H p)) (hW : ∀ c, c < 72 → 0 ≤ G (o + 16) c ∧ G (o + 16) c < 1000000) :
    ∃ G', g354 f o fr G = some G' ∧ eSh G' o T m (kNx K W 72) s M ∧ rCs G' o (fSh (xOf T (kNx K W 72)) s M) ∧ rCg G' o (L ++ cgN rd K W 72) ∧ rWk G G' o (qCw (xOf T (kNx K W 72)) s (fr ≠ 0) W C (fSh (xOf T (kNx K W 72)) s M) H) 72 ∧ xfWc o G G' := by
  have ho2 : 122 < o ∧ o < 211 := by omega
  obtain ⟨G1, a1, a2, a3, a4, a5⟩ := l_354_2 (f := f) (fr := fr) (K := K) (W := W) (rd := rd) ho2 hL (fun c hc => by
    rcases (hN c hc).2 with q | q
    · exact .inl q
    · exact .inr q.1) 72 0 f G rfl (by omega) (fun c hc => absurd hc (Nat.not_lt_zero c)) hr (by
    show rCg G o (L ++ [])
    rw [List.append_nil]; exact hg) (fun c hc => by
    unfold kNx
    rw [if_neg (fun q => absurd q.1 (Nat.not_lt_zero c))]
    exact (he.2.2.1 c hc).1) (fun c hc => (hN c hc).1) h2
  have he1 : eSh G1 o T m (kNx K W 72) s M := by
    obtain ⟨⟨k1, k2, k3, k4, k5, k6, k7, k8, k9⟩, b2, b3, b4, b5, b6⟩ := he
    have z : ∀ a j, ¬ (o ≤ a ∧ a ≤ o + 15) → a < 251 → G1 a j = G a j := fun a j q1 q2 => a5 a j (by omega) (by omega) (by omega) (by omega) (by omega) (by omega)
    refine ⟨⟨by rw [z _ _ (by omega) (by omega)]; exact k1, by rw [z _ _ (by omega) (by omega)]; exact k2, by rw [z _ _ (by omega) (by omega)]; exact k3, by rw [z _ _ (by omega) (by omega)]; exact k4, by rw [z _ _ (by omega) (by omega)]; exact k5, by rw [z _ _ (by omega) (by omega)]; exact k6, by rw [z _ _ (by omega) (by omega)]; exact k7, by rw [z _ _ (by omega) (by omega)]; exact k8, by rw [z _ _ (by omega) (by omega)]; exact k9⟩, b2.ge (z _ _ (by omega) (by omega)) (z _ _ (by omega) (by omega)) (fun a j q => z _ _ (by omega) (by omega)), b3.nx hN a4, b4.ge' (z _ _ (by omega) (by omega)) (fun j => z _ _ (by omega) (by omega)), fun y hy => by rw [z _ _ (by omega) (by omega)]; exact b5 y hy, b6.ge (fun a j _ _ => z _ _ (by omega) (by omega))⟩
  have hC1 : okC (cOf G1 o) := fun c hc => by
    unfold cOf
    rw [a5 _ _ (by omega) (by omega) (by omega) (by omega) (by omega) (by omega), a5 _ _ (by omega) (by omega) (by omega) (by omega) (by omega) (by omega), (hr c hc).1, (hr c hc).2]
    exact hC c hc
  obtain ⟨G2, b1, b2, b3, b4, b5⟩ := l_346 hf ho2 hM hn2 he1 hC1
  have hX := fun (c : Nat) (hc : c < 72) => xOf_is b2.2.2.1 hc
  have z2 : ∀ a j, ¬ (a = 0 ∧ (j ≤ 11 ∨ j = 21 ∨ j = 25 ∨ j = 42 ∨ 89 ≤ j ∧ j ≤ 91)) → ¬ (258 ≤ a ∧ a ≤ 267) → ¬ (a = 269 ∨ a = 270) → a ≠ o + 17 → a ≠ o + 20 → a ≠ 251 → a ≠ 252 → a ≠ 268 → ¬ (a = o ∧ j = 16) → ¬ (o + 10 ≤ a ∧ a ≤ o + 12) → a ≠ o + 15 → G2 a j = G a j := fun a j q1 q2 q3 q4 q5 q6 q7 q8 q9 q10 q11 => by rw [b5 a j q1 q2 q3 q4 q5, a5 a j q6 q7 q8 q9 q10 q11]
  have hwk : eWk G2 o (xOf T (kNx K W 72)) s W C (fSh (xOf T (kNx K W 72)) s M) H := ⟨fun c hc => by
    unfold rWs
    rw [b5 _ _ (by omega) (by omega) (by omega) (by omega) (by omega), b5 _ _ (by omega) (by omega) (by omega) (by omega) (by omega), b5 _ _ (by omega) (by omega) (by omega) (by omega) (by omega)]
    exact a2 c hc, b3, b4, b2.2.2.2.1.1, b2.2.2.2.1.2.1, fun p hp => by
    rw [z2 _ _ (by omega) (by omega) (by omega) (by omega) (by omega) (by omega) (by omega) (by omega) (by omega) (by omega) (by omega)]
    exact hH p hp, fun c hc => by
    rw [(b2.2.2.1 c hc).1, hX c hc]
    omega⟩
  have hW2 : ∀ c, G2 (o + 16) c = G (o + 16) c := fun c => z2 _ _ (by omega) (by omega) (by omega) (by omega) (by omega) (by omega) (by omega) (by omega) (by omega) (by omega) (by omega)
  obtain ⟨G3, c1, c2, c3⟩ := l_354_138 (f := f) (fr := fr) (by omega) hh ho 72 0 f G2 rfl (by omega) hwk (fun y _ hy => by rw [hW2]; exact hW y hy)
  have hxv : xfV o G2 (xup2 G2 0 0 (G2 0 0)) := fun a j q1 q2 q3 q4 q5 => xup2_n (by omega)
  have z3 : ∀ a j, a ≠ o + 16 → G3 a j = G2 a j := fun a j q => c3 a j (by omega)
  refine ⟨G3, ?_, ?_, fun c hc => by rw [z3 _ _ (by omega), z3 _ _ (by omega)]; exact b4 c hc, ?_, fun c hc => ?_, fun a j q1 q2 q3 q4 q5 q6 q7 q8 => ?_⟩
  · show g354_2 f f o fr ((0 : Nat) : Int) G = _
    rw [a1, b1, Option.bind_some]
    exact c1
  · obtain ⟨⟨k1, k2, k3, k4, k5, k6, k7, k8, k9⟩, d2, d3, d4, d5, d6⟩ := b2
    refine ⟨⟨by rw [z3 _ _ (by omega)]; exact k1, by rw [z3 _ _ (by omega)]; exact k2, by rw [z3 _ _ (by omega)]; exact k3, by rw [z3 _ _ (by omega)]; exact k4, by rw [z3 _ _ (by omega)]; exact k5, by rw [z3 _ _ (by omega)]; exact k6, by rw [z3 _ _ (by omega)]; exact k7, by rw [z3 _ _ (by omega)]; exact k8, by rw [z3 _ _ (by omega)]; exact k9⟩, d2.ge (z3 _ _ (by omega)) (z3 _ _ (by omega)) (fun a j q => z3 _ _ (by omega)), fun c hc => by rw [z3 _ _ (by omega)]; exact d3 c hc, d4.ge' (z3 _ _ (by omega)) (fun j => z3 _ _ (by omega)), fun y hy => by rw [z3 _ _ (by omega)]; exact d5 y hy, d6.ge (fun a j _ _ => z3 _ _ (by omega))⟩
  · exact a3.ge (by rw [z3 _ _ (by omega), b5 _ _ (by omega) (by omega) (by omega) (by omega) (by omega)]) (fun a j _ _ => by rw [z3 _ _ (by omega), b5 _ _ (by omega) (by omega) (by omega) (by omega) (by omega)])
  · have := c2 c (Nat.zero_le c) hc
    rw [hW2] at this
    exact this
  · rw [z3 _ _ (by omega)]
    exact z2 _ _ (by omega) (by omega) (by omega) (by omega) (by omega) (by omega) (by omega) (by omega) (by omega) (by omega) (by omega)
end
end
section
/-! cell() and sheet() -/
theorem len26 {o h : Nat} (hh : h < 4) (ho : o = 123 + 29 * h) : ((xl_t (o + 26)).2.2 : Int) = 72 := by
  obtain rfl | rfl | rfl | rfl : h = 0 ∨ h = 1 ∨ h = 2 ∨ h = 3 := by omega
  all_goals (subst ho; decide +kernel)
section
variable {f h o m : Nat} {G : xG_} {t : List Int} {T : List (List Int)}
/-- what cell() changes -/
def xfCe (o : Nat) (G G' : xG_) : Prop := ∀ a j, ¬ (a = 0 ∧ (j ≤ 11 ∨ j = 21 ∨ j = 25 ∨ 71 ≤ j ∧ j ≤ 74 ∨ j = 89 ∨ j = 90)) → ¬ (258 ≤ a ∧ a ≤ 262) → a ≠ 239 → a ≠ 241 → a ≠ 242 → a ≠ o + 26 → G' a j = G a j
theorem l_356 (hf : 6400 < f) (hh : h < 4) (ho : o = 123 + 29 * h) (h62 : G 0 62 = (h : Int)) (hC : rC G) (hT : rTxs G T m) (hp : rTp G t) (hc : T.length < 4200) (hm : m + t.length ≤ 90000) :
    ∃ G' v, g356 f G = some (v, G') ∧ G' 0 73 = 0 ∧ G' 0 74 = 0 ∧ xfCe o G G' ∧
      pok (qCt t) (fun w => v = xwr (-1 - (w : Int)) ∧ rTxs G' T m ∧ ∀ j, G' (o + 26) j = G (o + 26) j) (fun r => v = r.1 ∧ 0 ≤ r.1 ∧ r.1 < 72 ∧ (∀ j, j ≠ r.1.toNat → G' (o + 26) j = G (o + 26) j) ∧ (r.2.2 = -1 ∧ G' (o + 26) r.1.toNat = 0 ∧ rTxs G' T m ∨ r.2.2 ≠ -1 ∧ G' (o + 26) r.1.toNat = (T.length : Int) ∧ rTxs G' (T ++ [t]) (m + t.length))) := by
  obtain ⟨p1, p2, p3⟩ := hp
  let G1 := xup2 (xup2 G 0 74 0) 0 73 0
  have g1 : ∀ a j, ¬ (a = 0 ∧ 73 ≤ j ∧ j ≤ 74) → G1 a j = G a j := fun a j _ => by
    show xup2 _ _ _ _ _ _ = _
    rw [xup2_n (by omega), xup2_n (by omega)]
  have g173 : G1 0 73 = 0 := xup2_s _ _ _ _
  have g174 : G1 0 74 = 0 := by
    show xup2 _ _ _ _ _ _ = _
    rw [xup2_n (by omega), xup2_s]
  have hC1 : rC G1 := by
    obtain ⟨k1, k2, k3, k4, k5, k6, k7, k8, k9⟩ := hC
    unfold rC
    simp (disch := omega) only [g1]
    exact ⟨k1, k2, k3, k4, k5, k6, k7, k8, k9⟩
  have hp1 : rTe G1 240 0 t := p3.ge (fun j => g1 _ _ (by omega))
  have hT1 : rTxs G1 T m := hT.ge (g1 _ _ (by omega)) (g1 _ _ (by omega)) (fun a j _ => g1 _ _ (by omega))
  have e0 : g356 f G = Option.bind (g333 f 240 0 (t.length : Int) G1) (fun R111 => ((g211 f R111.2).bind fun R116 => (if (R116.1) = 0 then (if 0 ≤ (R116.2 (0) 62) ∧ (R116.2 (0) 62) < 4 then (if ¬ (R111.1) = (-1) then ((g294 f (t.length : Int) R116.2).bind fun R124 => g356_60 f (R124.1) (R116.2 (0) 90) (123 + 29 * (R116.2 (0) 62).toNat + 26) R124.2) else g356_60 f (0) (R116.2 (0) 90) (123 + 29 * (R116.2 (0) 62).toNat + 26) R116.2) else none) else (some (xwr ((-1) - (R116.2 (0) 7)), R116.2))))) := by
    have e1 : g361 f G = some ((t.length : Int), G1) := by
      unfold g361
      simp only [Option.bind_some]
      rw [xup2_n (by omega), p1]
    unfold g356
    rw [e1, Option.bind_some]
  have bd : ∀ {Z : xG_}, g211 f Z = some (if Z 0 7 = -1 then 0 else 1, Z) := fun {Z} => by
    have := l_bad (f := f) (G := Z) (L := Z 0)
    rw [xlx_id] at this
    exact this
  have hr := l_333 (f := f) (b := 240) (q := 0) (by omega) p2 hC1 hp1
  have ez : (((0 : Nat) : Int) + (t.length : Int)) = (t.length : Int) := by omega
  rw [ez] at hr
  rw [e0]
  cases hq : qCt t with
  | inl w =>
    rw [hq] at hr
    obtain ⟨v, G2, r1, r2, r3⟩ := hr
    have r1' : g333 f 240 0 (t.length : Int) G1 = some (v, G2) := r1
    have h7 : G2 0 7 ≠ -1 := by rw [r2]; omega
    have hn : ¬ ((1 : Int), G2).1 = 0 := fun h => absurd (show (1 : Int) = 0 from h) (by decide)
    refine ⟨G2, xwr (-1 - (w : Int)), ?_, by rw [r3 _ _ (by omega) (by omega)]; exact g173, by rw [r3 _ _ (by omega) (by omega)]; exact g174, fun a j q1 q2 q3 q4 q5 q6 => by rw [r3 _ _ (by omega) (by omega), g1 _ _ (by omega)], ?_⟩
    · rw [r1', Option.bind_some]
      show Option.bind (g211 f G2) _ = _
      rw [bd, if_neg h7, Option.bind_some, if_neg hn]
      show some (xwr (-1 - G2 0 7), G2) = _
      rw [r2, show (-1 - (((0 : Nat) : Int) + (w : Int))) = -1 - (w : Int) by omega]
    · refine ⟨?_, hT1.ge (r3 _ _ (by omega) (by omega)) (r3 _ _ (by omega) (by omega)) (fun a j _ => r3 _ _ (by omega) (by omega)), fun j => by rw [r3 _ _ (by omega) (by omega), g1 _ _ (by omega)]⟩
      rfl
  | inr r =>
    rw [hq] at hr
    obtain ⟨G2, r1, r2, r3, r4, r5, r6, r7, r8, r9, r10⟩ := hr
    have r1' : g333 f 240 0 (t.length : Int) G1 = some (r.2.2, G2) := r1
    have g2 : ∀ a j, ¬ (a = 0 ∧ (j ≤ 11 ∨ j = 21 ∨ j = 25 ∨ j = 73 ∨ j = 74 ∨ j = 89 ∨ j = 90)) → ¬ (258 ≤ a ∧ a ≤ 262) → G2 a j = G a j := fun a j q1 q2 => by rw [r10 _ _ (by omega) q2, g1 _ _ (by omega)]
    have h62' : G2 0 62 = (h : Int) := by rw [g2 _ _ (by omega) (by omega)]; exact h62
    have hT2 : rTxs G2 T m := hT.ge (g2 _ _ (by omega) (by omega)) (g2 _ _ (by omega) (by omega)) (fun a j _ => g2 _ _ (by omega) (by omega))
    have hp2 : rTe G2 240 0 t := p3.ge (fun j => g2 _ _ (by omega) (by omega))
    have h0 : (((0 : Int), G2) : Int × xG_).1 = 0 := rfl
    obtain ⟨c, hc'⟩ : ∃ c : Nat, r.1 = (c : Int) := ⟨r.1.toNat, by omega⟩
    have hcc : c < 72 := by omega
    have e2 : Option.bind (g333 f 240 0 (t.length : Int) G1) (fun R111 => ((g211 f R111.2).bind fun R116 => (if (R116.1) = 0 then (if 0 ≤ (R116.2 (0) 62) ∧ (R116.2 (0) 62) < 4 then (if ¬ (R111.1) = (-1) then ((g294 f (t.length : Int) R116.2).bind fun R124 => g356_60 f (R124.1) (R116.2 (0) 90) (123 + 29 * (R116.2 (0) 62).toNat + 26) R124.2) else g356_60 f (0) (R116.2 (0) 90) (123 + 29 * (R116.2 (0) 62).toNat + 26) R116.2) else none) else (some (xwr ((-1) - (R116.2 (0) 7)), R116.2))))) = (if ¬ r.2.2 = -1 then ((g294 f (t.length : Int) G2).bind fun R124 => g356_60 f (R124.1) (c : Int) (o + 26) R124.2) else g356_60 f 0 (c : Int) (o + 26) G2) := by
      rw [r1', Option.bind_some]
      show Option.bind (g211 f G2) _ = _
      rw [bd, if_pos r2, Option.bind_some, if_pos h0]
      simp only []
      rw [h62', if_pos (by omega), Int.toNat_natCast, r3, hc', ← ho]
    have e60 : ∀ (v : Int) (Z : xG_), g356_60 f v (c : Int) (o + 26) Z = some (xup2 Z (o + 26) c v 0 90, xup2 Z (o + 26) c v) := fun v Z => by
      unfold g356_60
      rw [len26 hh ho, if_pos (by omega), Int.toNat_natCast]
      rfl
    rw [e2]
    by_cases cn : r.2.2 = -1
    · refine ⟨xup2 G2 (o + 26) c 0, r.1, ?_, by rw [xup2_n (by omega), r10 _ _ (by omega) (by omega)]; exact g173, by rw [xup2_n (by omega), r10 _ _ (by omega) (by omega)]; exact g174, fun a j q1 q2 q3 q4 q5 q6 => by rw [xup2_n (by omega), g2 _ _ (by omega) (by omega)], rfl, r4, r5, fun j hj => ?_, .inl ⟨cn, ?_, ?_⟩⟩
      · rw [if_neg (fun q => q cn), e60, xup2_n (by omega), r3]
      · rw [hc', Int.toNat_natCast] at hj
        rw [xup2_n (by omega), g2 _ _ (by omega) (by omega)]
      · rw [hc', Int.toNat_natCast, xup2_s]
      · exact hT2.ge (xup2_n (by omega)) (xup2_n (by omega)) (fun a j _ => xup2_n (by omega))
    · obtain ⟨G3, k1, k2, k3⟩ := l_keep (f := f) (by omega) hT2 hc p2 hm hp2
      refine ⟨xup2 G3 (o + 26) c (T.length : Int), r.1, ?_, by rw [xup2_n (by omega), k3 _ _ (by omega) (by omega) (by omega) (by omega), r10 _ _ (by omega) (by omega)]; exact g173, by rw [xup2_n (by omega), k3 _ _ (by omega) (by omega) (by omega) (by omega), r10 _ _ (by omega) (by omega)]; exact g174, fun a j q1 q2 q3 q4 q5 q6 => by rw [xup2_n (by omega), k3 _ _ (by omega) q3 q4 q5, g2 _ _ (by omega) (by omega)], rfl, r4, r5, fun j hj => ?_, .inr ⟨cn, ?_, ?_⟩⟩
      · rw [if_pos cn, k1, Option.bind_some]
        show g356_60 f (T.length : Int) (c : Int) (o + 26) G3 = _
        rw [e60, xup2_n (by omega), k3 _ _ (by omega) (by omega) (by omega) (by omega), r3]
      · rw [hc', Int.toNat_natCast] at hj
        rw [xup2_n (by omega), k3 _ _ (by omega) (by omega) (by omega) (by omega), g2 _ _ (by omega) (by omega)]
      · rw [hc', Int.toNat_natCast, xup2_s]
      · exact k2.ge (xup2_n (by omega)) (xup2_n (by omega)) (fun a j _ => xup2_n (by omega))
theorem l_321 : g321 f G = some (0, xup2 G 0 74 1) := by
  unfold g321
  rfl
/-- sheet() -/
theorem l_355 (hh : h < 4) (ho : o = 123 + 29 * h) (h62 : G 0 62 = (h : Int)) (a b w : Int) :
    g355 f a b w G = some (if 0 ≤ a ∧ a < 6 ∧ 0 ≤ b ∧ b ≤ 11 then ((if w = 0 then G (o + 17) (a + 6 * b).toNat else if w = 1 then G (o + 20) (a + 6 * b).toNat else if w = 2 then G (o + 16) (a + 6 * b).toNat else -1), xup2 G 0 74 0) else (0, xup2 (xup2 G 0 74 0) 0 74 1)) := by
  unfold g355 g355_25 g355_102
  rw [Option.bind_some, l_321]
  by_cases c : 0 ≤ a ∧ a < 6 ∧ 0 ≤ b ∧ b ≤ 11
  · have hx : 0 ≤ a + 6 * b ∧ a + 6 * b < 72 := by omega
    rw [if_pos c, if_neg (by omega), if_neg (by omega), if_neg (by omega), if_pos (by omega), xup2_n (by omega), h62, if_pos (by omega), Int.toNat_natCast, ← ho, xwr_g (6 * b) (by omega) (by omega), xwr_g (a + 6 * b) (by omega) (by omega)]
    by_cases c0 : w = 0
    · rw [if_neg (fun q => q c0), if_pos c0, if_pos hx, xup2_n (by omega)]
    · rw [if_pos c0, if_neg c0]
      by_cases c1 : w = 1
      · rw [if_neg (fun q => q c1), if_pos c1, if_pos hx, xup2_n (by omega)]
      · rw [if_pos c1, if_neg c1]
        by_cases c2 : w = 2
        · rw [if_neg (fun q => q c2), if_pos c2, if_pos hx, xup2_n (by omega)]
        · rw [if_pos c2, if_neg c2]
  · rw [if_neg c]
    by_cases c1 : a < 0
    · rw [if_pos c1]; rfl
    · rw [if_neg c1]
      by_cases c2 : 6 ≤ a
      · rw [if_pos c2]; rfl
      · rw [if_neg c2]
        by_cases c3 : b < 0
        · rw [if_pos c3]; rfl
        · rw [if_neg c3, if_neg (by omega)]; rfl
end
end
section
/-! KEYS are shorter than rows; keepInputs and load whole -/
theorem key_lt {t : List Int} {s : pPg} (h : qPr t = .inr s) (hok : qOk s) {p : Nat} (hp : p < s.1.length) (hi : pIn s.2.1 (p : Int) = true) : qKy s p < qN s p := by
  have h2 : wIn s := pProg_in h (fun u hu => absurd hu (by simp))
  have hw := hok.1.2.2.1
  unfold pIn at hi
  have hfd : ∃ x, s.2.1.find? (fun x => decide (x.1 = (p : Int))) = some x := by
    cases hx : s.2.1.find? (fun x => decide (x.1 = (p : Int))) with
    | some x => exact ⟨x, rfl⟩
    | none =>
      rw [List.find?_eq_none] at hx
      obtain ⟨y, y1, y2⟩ := List.any_eq_true.mp hi
      exact absurd y2 (hx y y1)
  obtain ⟨x, hx⟩ := hfd
  have hm := List.mem_of_find?_eq_some hx
  have hx1 : x.1 = (p : Int) := of_decide_eq_true (List.find?_some (p := fun x : Int × Int × Int => decide (x.1 = (p : Int))) hx)
  have hk : pKy s.2.1 (p : Int) = x.2.2 := by unfold pKy; rw [hx]
  obtain ⟨a, ha⟩ := h2 x hm
  obtain ⟨w1, w2, w3, w4, w5, w6⟩ := hw x hm
  obtain ⟨y, hy, ey⟩ := List.getElem_of_mem ha
  have mk : mN s.2.2.2.1 y = (p : Int) ∧ mK s.2.2.2.1 y = x.2.1 := by
    unfold mN mK
    rw [getD_e hy, ey]
    exact ⟨hx1, rfl⟩
  have hn : pNn s.2.2.2.1 (p : Int) = x.2.1 := by
    by_cases c : mK s.2.2.2.1 y = pNn s.2.2.2.1 (p : Int)
    · rw [← c]; exact mk.2
    · exact absurd (Or.inl (Or.inl (Or.inr ⟨rfl, p, y, Nat.zero_le p, hp, ⟨hy, mk.1, by rw [mk.2]; omega, c⟩, rfl⟩))) (hok.2.2 3 _)
  unfold qKy qN
  rw [hk, hn]
  omega
section
variable {f o e m : Nat} {s so : pPg} {F : List pFc} {T : List (List Int)}
theorem l_299 {G : xG_} {q c : Nat} (hf : 6400 < f) (hok : qOk s) (hok' : qOk so) (hb : isFb (o + 1)) (hC : rC G) (hT : rTxs G T m) (he : e < T.length) (h1 : G o 1 = (e : Int)) (hs : qPr (T.getD e []) = .inr so) (hP : rPr G 2 q c s) (hPn : rPn G 2 s) (hF : rFa G (o + 1) F) (hFo : qFo s F) (hFl : ∀ y ∈ F, ∀ r, r < so.1.length → qNm so r = y.1 → y.2.length = qN so r) :
    ∃ G' R', g299 f o G = some G' ∧ (∀ a j, ¬ (a = 0 ∧ (j ≤ 11 ∨ 21 ≤ j ∧ j ≤ 27)) → a ≠ 1 → ¬ (37 ≤ a ∧ a ≤ 71) → ¬ (107 ≤ a ∧ a ≤ 109) → G' a j = G a j) ∧ rTb G' s.1.length (qN s) R' ∧ qFt s (kpC so s) F R' := by
  have hob : 122 < o ∧ o < 253 := by unfold isFb at hb; omega
  obtain ⟨G1, q', c', k1, k2, k3, k4⟩ := l_300 hf hC hT he hs
  have hP1 : rPr G1 2 q c s := hP.ge (fun j => k4 _ _ (by omega) (by omega) (by omega)) (fun a j _ _ _ _ _ => k4 _ _ (by omega) (by omega) (by omega))
  have hPn1 : rPn G1 2 s := fun y hy => by rw [k4 _ _ (by omega) (by omega) (by omega)]; exact hPn y hy
  have hF1 : rFa G1 (o + 1) F := hF.ge (k4 _ _ (by omega) (by omega) (by omega)) (fun a j _ _ => k4 _ _ (by omega) (by omega) (by omega))
  have loop : ∀ (d p fu : Nat) (Z : xG_), p + d = 16 → d < fu → (∀ a j, a ≠ 108 → Z a j = G1 a j) → (∀ j, j < p → Z 108 j = 0) → ∃ Z', g299_10 f fu o (p : Int) Z = g299_31 f f o 0 Z' ∧ (∀ a j, a ≠ 108 → Z' a j = G1 a j) ∧ ∀ j, j < 16 → Z' 108 j = 0 := by
    intro d
    induction d with
    | zero =>
      intro p fu Z h1 h2 h3 h4
      obtain ⟨fu, rfl⟩ : ∃ t, fu = t + 1 := ⟨fu - 1, by omega⟩
      refine ⟨Z, ?_, h3, fun j hj => h4 j (by omega)⟩
      show g299_10b (g299_10 f fu) f _ _ _ = _
      unfold g299_10b
      rw [if_pos (by omega)]
    | succ d ih =>
      intro p fu Z h1 h2 h3 h4
      obtain ⟨fu, rfl⟩ : ∃ t, fu = t + 1 := ⟨fu - 1, by omega⟩
      have e : xwr ((p : Int) + 1) = ((p + 1 : Nat) : Int) := by rw [xwr_g _ (by omega) (by omega)]; omega
      obtain ⟨Z', z1, z2, z3⟩ := ih (p + 1) fu (xup2 Z 108 p 0) (by omega) (by omega) (fun a j q => by rw [xup2_n (by omega)]; exact h3 a j q) (fun j hj => by
        by_cases c : j = p
        · rw [c, xup2_s]
        · rw [xup2_n (by omega)]; exact h4 j (by omega))
      refine ⟨Z', ?_, z2, z3⟩
      show g299_10b (g299_10 f fu) f _ _ _ = _
      unfold g299_10b
      rw [if_neg (by omega), if_pos (by omega), Int.toNat_natCast, Option.bind_some, e]
      exact z1
  obtain ⟨Z, z1, z2, z3⟩ := loop 16 0 f G1 rfl (by omega) (fun _ _ _ => rfl) (fun j hj => absurd hj (Nat.not_lt_zero j))
  have hnp := hok.1.1
  have hT0 : rTb Z s.1.length (qN s) (fun _ => []) := fun p hp => ⟨⟨z3 p (by omega), Nat.zero_le _, fun i hi => absurd hi (Nat.not_lt_zero i)⟩, by have := pNn_in hok.1 (p : Int); unfold qN; omega⟩
  have hF0 : qFt s (kpC so s) (F.take 0) (fun _ => []) := fun p hp => ⟨List.Pairwise.nil, Nat.zero_le _, fun y => ⟨fun h => (by cases h), fun h => (by have := h.2.2.1; rw [List.take_zero] at this; cases this)⟩⟩
  obtain ⟨G', R', u1, u2, u3, u4⟩ := l_299_31 (f := f) (G0 := G1) (by omega) hok hok' hb ⟨hP1, hPn1⟩ ⟨k2, k3⟩ hF1 hFo hFl F.length 0 f Z (fun _ => []) (by omega) (by have := hF.2.1; omega) (fun a j q => z2 a j (by omega)) hT0 hF0
  refine ⟨G', R', ?_, fun a j q1 q2 q3 q4 => by rw [u2 a j q4, k4 a j q1 q2 q3], u3, u4⟩
  unfold g299
  rw [h1, k1, Option.bind_some]
  exact z1.trans u1
/-- load() -/
theorem l_296 {G : xG_} {h o : Nat} {M : Nat → List pRw} (hf : 1000100 < f) (hh : h < 4) (ho : o = 123 + 29 * h) (h62 : G 0 62 = (h : Int)) (hC : rC G) (hT : rTxs G T m) (he : e < T.length) (h1 : G o 1 = (e : Int)) (hs : qPr (T.getD e []) = .inr s) (hok : qOk s) (hnh : wNh s) (hM : qSt1 s M) (hF : rFa G (o + 1) F) (hFa : qFa s M F) (hL : G 0 65 = G 0 64 → G 0 66 = (h : Int) → ∃ q c, rEn G q c s M) :
    ∃ G' q c, g296 f G = some G' ∧ xLd G G' ∧ rEn G' q c s M ∧ G' 0 65 = G 0 64 ∧ G' 0 66 = (h : Int) := by
  have go := l_296_23 hf hh ho h62 hC hT he h1 hs hok hnh hM hF hFa
  unfold g296
  by_cases c1 : G 0 65 = G 0 64
  · rw [if_neg (fun q => q c1), h62]
    by_cases c2 : G 0 66 = (h : Int)
    · rw [if_neg (fun q => q c2)]
      obtain ⟨q, c, r⟩ := hL c1 c2
      exact ⟨G, q, c, rfl, fun _ _ _ _ _ => rfl, r, c1, c2⟩
    · rw [if_pos c2]
      exact go
  · rw [if_pos c1]
    exact go
end
end
