/-! findReadings: what a CELL's FORMULA reads -/
/-- what is known of c's readings alone has changed -/
def xfR (c : Nat) (G G' : xG_) : Prop := ∀ a j, ¬ (263 ≤ a ∧ a ≤ 266 ∧ j = c) → G' a j = G a j
theorem xfR.tr {c : Nat} {G G1 G2 : xG_} (h1 : xfR c G G1) (h2 : xfR c G1 G2) : xfR c G G2 := fun a j q => (h2 a j q).trans (h1 a j q)
/-- c's readings: CELLS, predicates, whether a NAME is read -/
def rRo (G : xG_) (c m w : Nat) (b : Bool) : Prop := rM8 (G 263 c) (G 264 c) m ∧ G 265 c = (w : Int) ∧ w < 2 ^ 16 ∧ G 266 c = b01 b
section
variable {f c : Nat} {s : pPg} {N : List pNd}
theorem l_344_105 {i : Nat} {a b : Int} {r48 : Int → Int → xG_ → Option xG_} (hc : c < 72) (hi : i < 140) (ha : 0 ≤ a ∧ a < 72) (hb : 0 ≤ b ∧ b < 72) {m w : Nat} {bb : Bool} : ∀ (k x fu : Nat) (G : xG_), x + k = 72 → k < fu → G 259 i = a → G 260 i = b → rRo G c (m ||| nBx a b x) w bb →
    ∃ G', g344_105 r48 f fu (c : Int) (i : Int) (x : Int) G = g344_147 r48 f (c : Int) (i : Int) G' ∧ rRo G' c (m ||| nBx a b 72) w bb ∧ xfR c G G' := by
  intro k
  induction k with
  | zero =>
    intro x fu G h1 h2 h3 h4 h5
    obtain ⟨fu, rfl⟩ : ∃ t, fu = t + 1 := ⟨fu - 1, by omega⟩
    have hx : x = 72 := by omega
    subst hx
    refine ⟨G, ?_, h5, fun _ _ _ => rfl⟩
    show g344_105b r48 (g344_105 r48 f fu) f _ _ _ _ = _
    unfold g344_105b
    rw [if_pos (by omega)]
  | succ k ih =>
    intro x fu G h1 h2 h3 h4 h5
    obtain ⟨fu, rfl⟩ : ∃ t, fu = t + 1 := ⟨fu - 1, by omega⟩
    have e : xwr ((x : Int) + 1) = ((x + 1 : Nat) : Int) := by rw [xwr_g _ (by omega) (by omega)]; omega
    have hi2 : 0 ≤ (i : Int) ∧ (i : Int) < 140 := by omega
    have e0 : g344_105 r48 f (fu + 1) (c : Int) (i : Int) (x : Int) G = g344_105b r48 (g344_105 r48 f fu) f (c : Int) (i : Int) (x : Int) G := rfl
    by_cases d : fIn x a b
    · have s1 : ¬ ((if fIn x a b then (1 : Int) else 0, G) : Int × xG_).1 = 0 := by
        rw [if_pos d]; show ¬ (1 : Int) = 0; decide
      have en : nBx a b (x + 1) = nBx a b x ||| 2 ^ x := by
        show (if fIn x a b then _ else _) = _
        rw [if_pos d]
      obtain ⟨G', k1, k2, k3⟩ := ih (x + 1) fu (pRm G c x) (by omega) (by omega) (by rw [pRm_fr (by omega) (by omega)]; exact h3) (by rw [pRm_fr (by omega) (by omega)]; exact h4) ⟨by rw [en, ← Nat.or_assoc]; exact pRm_m (by omega) h5.1, by rw [pRm_fr (by omega) (by omega)]; exact h5.2.1, h5.2.2.1, by rw [pRm_fr (by omega) (by omega)]; exact h5.2.2.2⟩
      refine ⟨G', ?_, k2, fun a j q => by rw [k3 a j q, pRm_fr (by omega) (by omega)]⟩
      rw [e0]
      unfold g344_105b g344_141
      rw [if_neg (by omega), if_pos hi2, if_pos hi2, Int.toNat_natCast, h3, h4, l_345 (by omega) ha hb, Option.bind_some, if_neg s1, l_342 hc (by omega), Option.bind_some, e]
      exact k1
    · have s1 : ((if fIn x a b then (1 : Int) else 0, G) : Int × xG_).1 = 0 := by
        rw [if_neg d]
      have en : nBx a b (x + 1) = nBx a b x := by
        show (if fIn x a b then _ else _) = _
        rw [if_neg d]
      obtain ⟨G', k1, k2, k3⟩ := ih (x + 1) fu G (by omega) (by omega) h3 h4 (by rw [en]; exact h5)
      refine ⟨G', ?_, k2, k3⟩
      rw [e0]
      unfold g344_105b g344_141
      rw [if_neg (by omega), if_pos hi2, if_pos hi2, Int.toNat_natCast, h3, h4, l_345 (by omega) ha hb, Option.bind_some, if_pos s1, e]
      exact k1
theorem l_344_147 {G : xG_} {i : Nat} {r48 : Int → Int → xG_ → Option xG_} {m w : Nat} {bb : Bool} (hf : 20 < f) (hc : c < 72) (hi : i < 140) (hN : rNs G 2 s.1) {kd x : Int} (h1 : G 258 i = kd) (h2 : G 262 i = x) (hr : rRo G c m w bb) {y : pNd} (hy1 : y.1 = kd) (hy2 : y.2.2.2.2 = x) :
    ∃ G', g344_147 r48 f (c : Int) (i : Int) G = r48 (c : Int) ((i + 1 : Nat) : Int) G' ∧ rRo G' c m (w ||| nO1 s y) (bb || decide (6 ≤ y.1 ∧ y.1 ≤ 9)) ∧ xfR c G G' := by
  have e : xwr ((i : Int) + 1) = ((i + 1 : Nat) : Int) := by rw [xwr_g _ (by omega) (by omega)]; omega
  have hi2 : 0 ≤ (i : Int) ∧ (i : Int) < 140 := by omega
  have hc2 : 0 ≤ (c : Int) ∧ (c : Int) < 72 := by omega
  have hl := hN.2.1
  obtain ⟨r1, r2, r3, r4⟩ := hr
  unfold g344_147 g344_216
  rw [if_pos hi2, Int.toNat_natCast, h1, e]
  unfold nO1
  rw [hy1, hy2]
  by_cases c6 : kd < 6
  · refine ⟨G, by rw [if_pos c6], ⟨r1, ?_, ?_, ?_⟩, fun _ _ _ => rfl⟩
    · rw [if_neg (by omega), Nat.or_zero]; exact r2
    · rw [if_neg (by omega), Nat.or_zero]; exact r3
    · rw [decide_eq_false (by omega), Bool.or_false]; exact r4
  · rw [if_neg c6, if_pos hi2]
    by_cases c9 : kd ≤ 9
    · rw [if_pos c9, if_pos hc2, Option.bind_some, if_pos hi2]
      have dt : decide (6 ≤ kd ∧ kd ≤ 9) = true := decide_eq_true (by omega)
      rw [dt, Bool.or_true, Int.toNat_natCast]
      let G1 := xup2 G 266 c 1
      have z1 : ∀ a j, ¬ (a = 266 ∧ j = c) → G1 a j = G a j := fun a j q => xup2_n (by omega)
      have z2 : G1 266 c = 1 := xup2_s _ _ _ _
      show ∃ G', ((g205 f 2 (G1 262 i) G1).bind fun R111 => if (R111.1) = (-1) then _ else _) = _ ∧ _
      rw [z1 _ _ (by omega), h2, (hN.ge' (G' := G1) (z1 _ _ (by omega)) (fun j => z1 _ _ (by omega))).idx (by decide) hf, Option.bind_some]
      simp only []
      by_cases d : pIdx s.1 x = -1
      · rw [if_pos d]
        refine ⟨G1, rfl, ⟨?_, ?_, ?_, z2⟩, fun a j q => z1 a j (by omega)⟩
        · rw [z1 _ _ (by omega), z1 _ _ (by omega)]; exact r1
        · rw [if_neg (by omega), Nat.or_zero, z1 _ _ (by omega)]; exact r2
        · rw [if_neg (by omega), Nat.or_zero]; exact r3
      · have hp := pIdx_in s.1 x
        obtain ⟨p, hpe⟩ : ∃ p : Nat, pIdx s.1 x = (p : Int) := ⟨(pIdx s.1 x).toNat, by omega⟩
        have hp16 : p < 16 := by omega
        have w31 : w < 2147483648 := Nat.lt_of_lt_of_le r3 (by decide)
        rw [if_neg d, if_pos hc2, z1 _ _ (by omega), r2, hpe, xorb w31 (by omega), if_pos hc2, Option.bind_some]
        have hd : 6 ≤ kd ∧ kd ≤ 9 ∧ (p : Int) ≠ -1 := by omega
        refine ⟨_, rfl, ⟨?_, ?_, ?_, ?_⟩, fun a j q => ?_⟩
        · rw [xup2_n (by omega), xup2_n (by omega), z1 _ _ (by omega), z1 _ _ (by omega)]; exact r1
        · rw [xup2_s, if_pos hd, Int.toNat_natCast]
        · rw [if_pos hd, Int.toNat_natCast]
          exact or_lt r3 hp16
        · rw [xup2_n (by omega)]; exact z2
        · rw [xup2_n (by omega)]; exact z1 a j (by omega)
    · refine ⟨G, by rw [if_neg c9], ⟨r1, ?_, ?_, ?_⟩, fun _ _ _ => rfl⟩
      · rw [if_neg (by omega), Nat.or_zero]; exact r2
      · rw [if_neg (by omega), Nat.or_zero]; exact r3
      · rw [decide_eq_false (by omega), Bool.or_false]; exact r4
theorem nd_step {N : List pNd} {x : Nat} (h : x < N.length) : N.drop x = N.getD x dNd :: N.drop (x + 1) := by
  rw [List.drop_eq_getElem_cons h]
  congr 1
  rw [List.getD_eq_getElem?_getD, List.getElem?_eq_getElem h]
  rfl
theorem rNd.R {G G' : xG_} (h : rNd G N) (hx : xfR c G G') : rNd G' N := h.ge (hx _ _ (by omega)) (fun a j _ _ => hx _ _ (by omega))
theorem l_344_48 (hf : 100 < f) (hc : c < 72) (hw : wFm N) (hl : N.length ≤ 62) : ∀ (k i fu : Nat) (G : xG_) (m w : Nat) (bb : Bool), i + k = N.length → k < fu → rNd G N → rNs G 2 s.1 → rRo G c m w bb →
    ∃ G', g344_48 f fu (c : Int) (i : Int) G = some G' ∧ rRo G' c (m ||| nRd (N.drop i)) (w ||| nOf s (N.drop i)) (bb || nNm (N.drop i)) ∧ xfR c G G' := by
  intro k
  induction k with
  | zero =>
    intro i fu G m w bb h1 h2 h3 h4 h5
    obtain ⟨fu, rfl⟩ : ∃ t, fu = t + 1 := ⟨fu - 1, by omega⟩
    have en : N.drop i = [] := List.drop_eq_nil_of_le (by omega)
    refine ⟨G, ?_, ?_, fun _ _ _ => rfl⟩
    · show g344_48b (g344_48 f fu) f _ _ _ = _
      unfold g344_48b
      rw [h3.1, if_pos (by omega)]
    · rw [en]
      show rRo G c (m ||| 0) (w ||| 0) (bb || false)
      rw [Nat.or_zero, Nat.or_zero, Bool.or_false]
      exact h5
  | succ k ih =>
    intro i fu G m w bb h1 h2 h3 h4 h5
    obtain ⟨fu, rfl⟩ : ∃ t, fu = t + 1 := ⟨fu - 1, by omega⟩
    have hi : i < N.length := by omega
    have hi2 : 0 ≤ (i : Int) ∧ (i : Int) < 140 := by omega
    have hwi := hw i hi
    unfold wNd at hwi
    obtain ⟨n1, n2, n3, n4, n5⟩ := h3.2 i hi
    have e0 : g344_48 f (fu + 1) (c : Int) (i : Int) G = g344_48b (g344_48 f fu) f (c : Int) (i : Int) G := rfl
    rw [nd_step hi]
    -- CELLS first
    have st1 : ∃ G1, g344_48b (g344_48 f fu) f (c : Int) (i : Int) G = g344_147 (g344_48 f fu) f (c : Int) (i : Int) G1 ∧ rRo G1 c (m ||| nR1 (N.getD i dNd)) w bb ∧ xfR c G G1 := by
      unfold g344_48b
      rw [h3.1, if_neg (by omega), if_pos hi2, Int.toNat_natCast, n1]
      unfold nR1
      generalize N.getD i dNd = y at *
      by_cases c2 : y.1 = 2
      · have q : 0 ≤ y.2.1 ∧ y.2.1 < 72 := by
          clear ih
          omega
        obtain ⟨x, hx⟩ : ∃ x : Nat, y.2.1 = (x : Int) := ⟨y.2.1.toNat, by omega⟩
        refine ⟨pRm G c x, ?_, ?_, fun a j q => pRm_fr (by omega) (by omega)⟩
        · rw [if_neg (fun q => q c2), if_pos hi2, n2, hx, l_342 hc (by omega), Option.bind_some]
          unfold g344_80
          rw [if_pos hi2, Int.toNat_natCast, pRm_fr (by omega) (by omega), n1, if_neg (by omega), if_pos hi2, if_pos (by omega)]
        · rw [if_pos c2, hx, Int.toNat_natCast]
          exact ⟨pRm_m (by omega) h5.1, by rw [pRm_fr (by omega) (by omega)]; exact h5.2.1, h5.2.2.1, by rw [pRm_fr (by omega) (by omega)]; exact h5.2.2.2⟩
      · rw [if_pos c2, if_neg c2]
        unfold g344_80 g344_102
        rw [if_pos hi2, Int.toNat_natCast, n1, if_pos hi2]
        by_cases c4 : y.1 = 4 ∨ y.1 = 5
        · have q : (0 ≤ y.2.1 ∧ y.2.1 < 72) ∧ (0 ≤ y.2.2.1 ∧ y.2.2.1 < 72) := by
            clear ih
            rcases hwi with q | q | q | q | q | q
            · omega
            · omega
            · omega
            · exact q.2
            · omega
            · omega
          obtain ⟨G', k1, k2, k3⟩ := l_344_105 (f := f) (r48 := g344_48 f fu) hc (by omega : i < 140) q.1 q.2 (m := m) (w := w) (bb := bb) 72 0 f G rfl (by omega) n2 n3 (by
            show rRo G c (m ||| 0) w bb
            rw [Nat.or_zero]; exact h5)
          rw [if_pos c4]
          refine ⟨G', ?_, k2, k3⟩
          rw [← k1]
          by_cases d : y.1 = 4
          · rw [if_pos d]; rfl
          · rw [if_neg d, if_neg (fun q => q (by omega))]; rfl
        · rw [if_neg c4]
          refine ⟨G, ?_, by rw [Nat.or_zero]; exact h5, fun _ _ _ => rfl⟩
          rw [if_neg (by omega), if_pos (by omega)]
    obtain ⟨G1, u1, u2, u3⟩ := st1
    obtain ⟨G2, v1, v2, v3⟩ := l_344_147 (f := f) (i := i) (r48 := g344_48 f fu) (by omega) hc (by omega) (h4.ge' (G' := G1) (u3 _ _ (by omega)) (fun j => u3 _ _ (by omega))) (by rw [u3 _ _ (by omega)]; exact n1) (by rw [u3 _ _ (by omega)]; exact n5) u2 (y := N.getD i dNd) rfl rfl
    have h34 := u3.tr v3
    obtain ⟨G', k1, k2, k3⟩ := ih (i + 1) fu G2 _ _ _ (by omega) (by omega) (h3.R h34) (h4.ge' (h34 _ _ (by omega)) (fun j => h34 _ _ (by omega))) v2
    refine ⟨G', ?_, ?_, h34.tr k3⟩
    · rw [e0, u1, v1]
      exact k1
    · show rRo G' c (m ||| (nR1 (N.getD i dNd) ||| nRd (N.drop (i + 1)))) (w ||| (nO1 s (N.getD i dNd) ||| nOf s (N.drop (i + 1)))) (bb || (decide _ || nNm (N.drop (i + 1))))
      rw [← Nat.or_assoc, ← Nat.or_assoc, ← Bool.or_assoc]
      exact k2
end
/-! The texts of CELLS -/
/-- each CELL's FORMULA: nodes, root -/
abbrev fXs : Type := Nat → Option (List pNd × Int)
def okX (X : fXs) : Prop := ∀ c, c < 72 → ∀ e, X c = some e → wFm e.1 ∧ e.1.length ≤ 62 ∧ 0 ≤ e.2 ∧ e.2 < e.1.length
def xOf (T : List (List Int)) (K : Nat → Nat) : fXs := fun c => if K c = 0 then none else match qCt (T.getD (K c) []) with
  | .inr r => some (r.2.1, r.2.2)
  | .inl _ => none
/-- the texts' numbers of a line's CELLS -/
def rKt (G : xG_) (o : Nat) (T : List (List Int)) (K : Nat → Nat) : Prop := ∀ c, c < 72 → G (o + 15) c = (K c : Int) ∧ K c < T.length ∧ (K c ≠ 0 → ∃ r, qCt (T.getD (K c) []) = .inr r ∧ r.1 = (c : Int) ∧ r.2.2 ≠ -1)
def xRd (X : fXs) (c : Nat) : Nat := match X c with
  | none => 0
  | some e => nRd e.1
def xRo (X : fXs) (s : pPg) (c : Nat) : Nat := match X c with
  | none => 0
  | some e => nOf s e.1
def xRn (X : fXs) (c : Nat) : Bool := match X c with
  | none => false
  | some e => nNm e.1
section
variable {f o m : Nat} {T : List (List Int)} {K : Nat → Nat} {G : xG_} {s : pPg}
theorem l_341 {c : Nat} (hf : 3100 < f) (hc : c < 72) (hC : rC G) (hT : rTxs G T m) (hK : rKt G o T K) (h0 : K c ≠ 0) :
    ∃ e G', xOf T K c = some e ∧ g341 f o (c : Int) G = some (e.2, G') ∧ rNd G' e.1 ∧ wFm e.1 ∧ e.1.length ≤ 62 ∧ 0 ≤ e.2 ∧ e.2 < e.1.length ∧ xfK G G' := by
  obtain ⟨k1, k2, k3⟩ := hK c hc
  obtain ⟨r, q1, q2, q3⟩ := k3 h0
  obtain ⟨t1, t2, t3, t4, t5⟩ := hT
  obtain ⟨b0, q, b1, b2, b3, b4⟩ := t5 (K c) k2
  have h := l_333 (f := f) hf b0 hC b4
  rw [q1] at h
  obtain ⟨G', u1, u2, u3, u4, u5, u6, u7, u8, u9, u10⟩ := h
  have hx : xOf T K c = some (r.2.1, r.2.2) := by
    unfold xOf
    rw [if_neg h0, q1]
  have hr : 0 ≤ r.2.2 ∧ r.2.2 < r.2.1.length := by
    rcases u8 with z | z
    · exact absurd z.1 q3
    · exact z
  have hc2 : 0 ≤ (c : Int) ∧ (c : Int) < 72 := by omega
  have hk2 : 0 ≤ (K c : Int) ∧ (K c : Int) < 4200 := by omega
  refine ⟨_, G', hx, ?_, u6, u7, u9, hr.1, hr.2, u10⟩
  unfold g341
  rw [if_pos hc2, Int.toNat_natCast, k1, if_pos hk2, if_pos hc2, if_pos hk2, if_pos hc2, if_pos hk2, Int.toNat_natCast, b1, b2, xwr_g _ (by omega) (by omega), u1]
  rfl
theorem xOf_none {c : Nat} (h : K c = 0) : xOf T K c = none := by
  unfold xOf
  rw [if_pos h]
/-- what findReadings changes -/
def xfFr (c : Nat) (G G' : xG_) : Prop := ∀ a j, ¬ (263 ≤ a ∧ a ≤ 266 ∧ j = c) → ¬ (a = 0 ∧ (j ≤ 11 ∨ j = 21 ∨ j = 25 ∨ j = 89 ∨ j = 90)) → ¬ (258 ≤ a ∧ a ≤ 262) → G' a j = G a j
theorem l_344 {c : Nat} (hf : 3100 < f) (ho : 122 < o ∧ o < 211) (hc : c < 72) (hC : rC G) (hT : rTxs G T m) (hK : rKt G o T K) (hN : rNs G 2 s.1) :
    ∃ G', g344 f o (c : Int) G = some G' ∧ rRo G' c (xRd (xOf T K) c) (xRo (xOf T K) s c) (xRn (xOf T K) c) ∧ xfFr c G G' := by
  have hc2 : 0 ≤ (c : Int) ∧ (c : Int) < 72 := by omega
  let G1 := xup2 (xup2 (xup2 (xup2 G 263 c 0) 264 c 0) 265 c 0) 266 c 0
  have z : xfR c G G1 := fun a j q => by
    show xup2 _ _ _ _ _ _ = _
    rw [xup2_n (by omega), xup2_n (by omega), xup2_n (by omega), xup2_n (by omega)]
  have z3 : G1 263 c = 0 := by
    show xup2 _ _ _ _ _ _ = _
    rw [xup2_n (by omega), xup2_n (by omega), xup2_n (by omega), xup2_s]
  have z4 : G1 264 c = 0 := by
    show xup2 _ _ _ _ _ _ = _
    rw [xup2_n (by omega), xup2_n (by omega), xup2_s]
  have z5 : G1 265 c = 0 := by
    show xup2 _ _ _ _ _ _ = _
    rw [xup2_n (by omega), xup2_s]
  have z6 : G1 266 c = 0 := xup2_s _ _ _ _
  have hz : rRo G1 c 0 0 false := ⟨by rw [z3, z4]; exact .z, z5, by decide, z6⟩
  have e0 : g344 f o (c : Int) G = (if ¬ (G1 (o + 15) c) = 0 then ((g341 f o (c : Int) G1).bind fun R172 => g344_48 f f (c : Int) 0 R172.2) else some G1) := by
    unfold g344
    rw [if_pos hc2, Int.toNat_natCast, Option.bind_some, if_pos hc2, Option.bind_some, if_pos hc2, Option.bind_some, if_pos hc2, Option.bind_some, if_pos hc2]
  have hK1 : rKt G1 o T K := fun x hx => by
    rw [z _ _ (by omega)]
    exact hK x hx
  have k1 := (hK1 c hc).1
  by_cases h0 : K c = 0
  · refine ⟨G1, ?_, ?_, fun a j q _ _ => z a j q⟩
    · rw [e0, k1, h0, if_neg (fun q => q rfl)]
    · unfold xRd xRo xRn
      rw [xOf_none h0]
      exact hz
  · have hC1 : rC G1 := by
      obtain ⟨k1, k2, k3, k4, k5, k6, k7, k8, k9⟩ := hC
      exact ⟨by rw [z _ _ (by omega)]; exact k1, by rw [z _ _ (by omega)]; exact k2, by rw [z _ _ (by omega)]; exact k3, by rw [z _ _ (by omega)]; exact k4, by rw [z _ _ (by omega)]; exact k5, by rw [z _ _ (by omega)]; exact k6, by rw [z _ _ (by omega)]; exact k7, by rw [z _ _ (by omega)]; exact k8, by rw [z _ _ (by omega)]; exact k9⟩
    have hT1 : rTxs G1 T m := hT.ge (z _ _ (by omega)) (z _ _ (by omega)) (fun a j q => z _ _ (by omega))
    obtain ⟨e, G2, x1, x2, x3, x4, x5, x6, x7, x8⟩ := l_341 hf hc hC1 hT1 hK1 h0
    have hN2 : rNs G2 2 s.1 := hN.ge' (by rw [x8 _ _ (by omega) (by omega)]; exact z _ _ (by omega)) (fun j => by rw [x8 _ _ (by omega) (by omega)]; exact z _ _ (by omega))
    have hz2 : rRo G2 c 0 0 false := ⟨by rw [x8 _ _ (by omega) (by omega), x8 _ _ (by omega) (by omega)]; exact hz.1, by rw [x8 _ _ (by omega) (by omega)]; exact hz.2.1, hz.2.2.1, by rw [x8 _ _ (by omega) (by omega)]; exact hz.2.2.2⟩
    obtain ⟨G3, y1, y2, y3⟩ := l_344_48 (f := f) (s := s) (by omega) hc x4 x5 e.1.length 0 f G2 0 0 false (by omega) (by omega) x3 hN2 hz2
    rw [Nat.zero_or, Nat.zero_or, Bool.false_or, List.drop_zero] at y2
    refine ⟨G3, ?_, ?_, fun a j q1 q2 q3 => by rw [y3 a j q1, x8 a j q2 q3]; exact z a j q1⟩
    · rw [e0, k1, if_pos (by omega), x2, Option.bind_some]
      exact y1
    · unfold xRd xRo xRn
      rw [x1]
      exact y2
end
