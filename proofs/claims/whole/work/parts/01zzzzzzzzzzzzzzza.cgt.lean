/-! THE CLASS: small questions -/
section
variable {f A q mp rp nx nq hr n sl : Nat} {S : Nat → Nat × Nat × Nat} {G : xG_} {m : Nat × Nat} {s : pPg} {xr cr : Nat → Nat} {M M' : Nat → List pRw} {T : List (List Int)} {P : Nat → Nat} {mo : sMo} {lns : Nat → sLn} {tx : List Int} {kp : Nat × List (List Int)} {mt : Int × List Int} {pl rf : Int}
theorem o_a {x kk L z : Nat} (h : S x = (2, kk, L)) (hz : z < L) : cq_a kk x (z : Int) (S, G, m) = some (G x z) := by
  unfold cq_a
  simp only [h]
  rw [if_pos ⟨trivial, trivial, by omega, by omega⟩, Int.toNat_natCast]
theorem cMr.cg (h : cMr S G nx mp q rp s xr cr M) (e : ∀ p, p < s.1.length → M p = M' p) : cMr S G nx mp q rp s xr cr M' := ⟨h.1, h.2.1, h.2.2.1, h.2.2.2.1, fun p hp => by rw [← e p hp]; exact h.2.2.2.2 p hp⟩
theorem okM8.cg (h : okM8 s M) (e : ∀ p, p < s.1.length → M p = M' p) : okM8 s M' := fun p hp => by rw [← e p hp]; exact h p hp
/-- a moment's program and rows -/
theorem cMo.pm (h : cMo T S G A P mp mo) (hE : cEd T S G A P) (hi : isMo T mo s M) : ∃ (rp : Nat) (xr cr : Nat → Nat) (nq : Nat), cMr S G A mp (P mo.1) rp s xr cr M ∧ cPgm S G (P mo.1) nq s ∧ nq ≤ A ∧ qOc s ∧ okM8 s M ∧ (P mo.1 = 229 ∧ nq ≤ 243 ∨ 555 < P mo.1) ∧ sfP A mp ∧ sfP A rp ∧ ∀ p, p < s.1.length → xr p + 2 < 216 ∨ 555 < xr p := by
  obtain ⟨s1, M1, rp, xr, cr, tp, ac, to, a1, a2, a3, _, _, a4, ⟨a5, a6, _⟩, a7, _⟩ := h
  obtain ⟨e1, e2⟩ := isMo_u a1 hi
  subst e1
  obtain ⟨_, ⟨s2, nq, c1, c2, c3, c4, c5⟩, _⟩ := hE.1 _ a4
  have e3 : s1 = s2 := by
    have := hi.2.1
    rw [c1] at this
    injection this with z
    exact z.symm
  subst e3
  exact ⟨rp, xr, cr, nq, a3.cg e2, c3, c4, c2, a2.cg e2, c5, a5, a6, a7⟩
theorem k_15 {p i col : Int} (hok : qOk s) (hM : cMr S G nx mp q rp s xr cr M) (hP : cPgm S G q nq s) : c15 f mp p i col (S, G, m) = some (if (((0 ≤ p ∧ p < s.1.length) ∧ 0 ≤ i ∧ i < (M p.toNat).length) ∧ 0 ≤ col ∧ col < qN s p.toNat) then 1 else 0, (S, G, m)) := by
  obtain ⟨h1, h2, h3, h4, h5⟩ := hM
  obtain ⟨p1, p2, p3, p4, _⟩ := hP
  have h53 : c15_53 f (S, G, m) = some (0, (S, G, m)) := by unfold c15_53 c15_54; rw [if_pos (.inl rfl)]
  have h54 : c15_54 f 1 (S, G, m) = some (1, (S, G, m)) := by unfold c15_54; rw [if_pos (.inr rfl)]
  have ng : ∀ {P : Prop} [Decidable P], ¬ P → (some ((0 : Int), (S, G, m)) : Option (Int × xT_)) = some (if P then 1 else 0, (S, G, m)) := fun {P} _ hP => by rw [if_neg hP]
  unfold c15
  by_cases c1 : p < 0
  · rw [if_pos c1, h53, if_neg (fun z => by have := z.1.1.1; omega)]
  · rw [if_neg c1, o_gr h1 h2, Option.bind_some, o_gi p1.1, Option.bind_some, p3.1]
    by_cases c2 : (s.1.length : Int) ≤ p
    · rw [if_pos c2, h53, if_neg (fun z => by have := z.1.1.2; omega)]
    · rw [if_neg c2]
      obtain ⟨x, rfl⟩ : ∃ x : Nat, p = (x : Int) := ⟨p.toNat, by omega⟩
      have hx : x < s.1.length := by omega
      obtain ⟨b1, b2, b3⟩ := h5 x hx
      rw [Int.toNat_natCast]
      by_cases c3 : i < 0
      · rw [if_pos c3, h53, if_neg (fun z => by have := z.1.2.1; omega)]
      · rw [if_neg c3, o_gr h1 h3, Option.bind_some, o_ar h4 (by decide) hx b1, Option.bind_some, o_gi b3.1, Option.bind_some, b3.2.2.2.1.2.1]
        by_cases c4 : ((M x).length : Int) ≤ i
        · rw [if_pos c4, h53, if_neg (fun z => by have := z.1.2.2; omega)]
        · rw [if_neg c4]
          by_cases c5 : col < 0
          · rw [if_pos c5, h53, if_neg (fun z => by have := z.2.1; omega)]
          · have w := qN_c hok.1 x
            rw [if_neg c5, Option.bind_some, o_gr p1.1 p2.2.1, Option.bind_some, o_a p1.2.2.1 (by have := p3.2.1; omega), Option.bind_some, p4 x (by have := p3.2.1; omega), ← w.1]
            by_cases c6 : ((qN s x : Nat) : Int) ≤ col
            · rw [if_pos c6, h53, if_neg (fun z => by have := z.2.2; omega)]
            · rw [if_neg c6, h54, if_pos ⟨⟨⟨by omega, by omega⟩, by omega, by omega⟩, by omega, by omega⟩]
/-- the line in use, its latest moment -/
theorem hs_ln (h : cHs S G A (T, lns, hr, tx, kp, mt, pl, rf) n) (hb : (lns hr).2.1.1 + (lns hr).2.1.2.1 < 520) : ∃ (P : Nat → Nat) (mp : Nat), cEd T S G A P ∧ cMo T S G A P mp (lMo (lns hr)) ∧ cLn T S G A P (243 + 9 * hr) (lns hr) ∧ lnSt S (243 + 9 * hr) ∧ lnPt G (243 + 9 * hr) ∧ G 220 hr = ((243 + 9 * hr : Nat) : Int) ∧ (∀ (f : Nat) (m : Nat × Nat), c5 f (243 + 9 * hr) (S, G, m) = some (mp, (S, G, m))) ∧ hr < 4 ∧ G 64 6 = (hr : Int) ∧ G (mp) 7 = ((lns hr).2.1.2.2 : Int) := by
  obtain ⟨⟨a1, a2, a3, a4⟩, ⟨P, b1, b2, b3⟩, ⟨c1, c2⟩, _⟩ := h
  have l := b2 hr c1
  obtain ⟨⟨⟨l1, l2⟩, mp, l3, l4⟩, _⟩ := id l
  obtain ⟨d1, d2, x, d3, d4⟩ := l3 _ (Nat.le_add_right _ _) (Nat.le_refl _)
  rw [Nat.sub_self] at d4
  have d4' : x + 0 = (lns hr).2.1.2.2 := d4
  refine ⟨P, mp _, b1, d2, l, lnSt_of a1 c1, lnPt_of a2 c1, p_ln a2 c1, fun f m => k_5 (lnSt_of a1 c1) (lnPt_of a2 c1) l1 hb d1, c1, c2, by rw [d3, ← d4']; rfl⟩
/-- value() -/
theorem k_176 {p i col v t : Int} (h : cHs S G A (T, lns, hr, tx, kp, mt, pl, rf) n) (hb : (lns hr).2.1.1 + (lns hr).2.1.2.1 < 520) (hst : stVa T (lns hr) p i col t v) : (t = 0 ∧ c176 f 64 p i col (S, G, m) = some (.inr v, (S, G, m))) ∨ (t = 1 ∧ c176 f 64 p i col (S, G, m) = some (.inl 1, cq_ex (S, G, m))) := by
  obtain ⟨P, mp, b1, b2, b3, b4, b5, b6, b7, b8, b9, b10⟩ := hs_ln h hb
  obtain ⟨⟨a1, a2, a3, a4⟩, _⟩ := h
  obtain ⟨s, M, i1, i2⟩ := hst
  obtain ⟨rp, xr, cr, nq, r1, r2, r3, r4, r5, r6⟩ := b2.pm b1 i1
  have i3 : cq_is 1 14 (243 + 9 * hr) (S, G, m) = some () := if_pos b4.1
  have i4 : cq_is 2 8 mp (S, G, m) = some () := if_pos r1.1
  have g6 : cq_gi 11 6 17 64 (S, G, m) = some (hr : Int) := by rw [o_gi (s64 a1), b9]
  unfold c176
  rw [o_gr (y := 220) (s64 a1) (p64_5 a2), Option.bind_some, g6, Option.bind_some, o_ar (s220 a1) (by decide) b8 b6, Option.bind_some, i3, Option.bind_some, b7, Option.bind_some, i4, Option.bind_some, k_15 r4.1 r1 r2, Option.bind_some]
  rcases i2 with ⟨c, rfl, rfl⟩ | ⟨c, rfl, rfl⟩
  · left
    rw [if_pos (show ¬ (if (((0 ≤ p ∧ p < s.1.length) ∧ 0 ≤ i ∧ i < (M p.toNat).length) ∧ 0 ≤ col ∧ col < qN s p.toNat) then (1 : Int) else 0) = 0 by rw [if_pos c]; decide)]
    obtain ⟨x, rfl⟩ : ∃ x : Nat, p = (x : Int) := ⟨p.toNat, by omega⟩
    obtain ⟨y, rfl⟩ : ∃ y : Nat, i = (y : Int) := ⟨i.toNat, by omega⟩
    obtain ⟨z, rfl⟩ : ∃ z : Nat, col = (z : Int) := ⟨col.toNat, by omega⟩
    rw [Int.toNat_natCast] at c
    have hx : x < s.1.length := by omega
    obtain ⟨w1, w2, w3⟩ := r1.2.2.2.2 x hx
    have i5 : cq_is 5 4 (xr x) (S, G, m) = some () := if_pos w3.1
    rw [o_gr r1.1 r1.2.2.1, Option.bind_some, o_ar r1.2.2.2.1 (by decide) hx w1, Option.bind_some, i5, Option.bind_some, k_70 w3 (by omega) (by omega), Option.bind_some, Int.toNat_natCast, Int.toNat_natCast, Int.toNat_natCast]
    exact ⟨rfl, rfl⟩
  · right
    rw [if_neg (show ¬ ¬ (if (((0 ≤ p ∧ p < s.1.length) ∧ 0 ≤ i ∧ i < (M p.toNat).length) ∧ 0 ≤ col ∧ col < qN s p.toNat) then (1 : Int) else 0) = 0 by rw [if_neg c]; decide)]
    exact ⟨rfl, rfl⟩
/-- rank() -/
theorem k_181 {p i v t : Int} (h : cHs S G A (T, lns, hr, tx, kp, mt, pl, rf) n) (hb : (lns hr).2.1.1 + (lns hr).2.1.2.1 < 520) (hst : stRk T (lns hr) p i t v) : (t = 0 ∧ c181 f 64 p i (S, G, m) = some (.inr v, (S, G, m))) ∨ (t = 1 ∧ c181 f 64 p i (S, G, m) = some (.inl 1, cq_ex (S, G, m))) := by
  obtain ⟨P, mp, b1, b2, b3, b4, b5, b6, b7, b8, b9, b10⟩ := hs_ln h hb
  obtain ⟨⟨a1, a2, a3, a4⟩, _⟩ := h
  obtain ⟨s, M, i1, i2⟩ := hst
  obtain ⟨rp, xr, cr, nq, r1, r2, r3, r4, r5, r6⟩ := b2.pm b1 i1
  have i3 : cq_is 1 14 (243 + 9 * hr) (S, G, m) = some () := if_pos b4.1
  have i4 : cq_is 2 8 mp (S, G, m) = some () := if_pos r1.1
  have g6 : cq_gi 11 6 17 64 (S, G, m) = some (hr : Int) := by rw [o_gi (s64 a1), b9]
  unfold c181
  rw [o_gr (y := 220) (s64 a1) (p64_5 a2), Option.bind_some, g6, Option.bind_some, o_ar (s220 a1) (by decide) b8 b6, Option.bind_some, i3, Option.bind_some, b7, Option.bind_some, i4, Option.bind_some, k_15 r4.1 r1 r2, Option.bind_some]
  rcases i2 with ⟨c, rfl, rfl⟩ | ⟨c, rfl, rfl⟩
  · left
    obtain ⟨x, rfl⟩ : ∃ x : Nat, p = (x : Int) := ⟨p.toNat, by omega⟩
    obtain ⟨y, rfl⟩ : ∃ y : Nat, i = (y : Int) := ⟨i.toNat, by omega⟩
    rw [Int.toNat_natCast] at c
    have hx : x < s.1.length := by omega
    have hq := qN_pos r4 hx
    rw [if_pos (show ¬ (if (((0 ≤ (x : Int) ∧ (x : Int) < s.1.length) ∧ 0 ≤ (y : Int) ∧ (y : Int) < (M (x : Int).toNat).length) ∧ (0 : Int) ≤ 0 ∧ (0 : Int) < qN s (x : Int).toNat) then (1 : Int) else 0) = 0 by rw [if_pos ⟨by rw [Int.toNat_natCast]; exact c, by omega, by rw [Int.toNat_natCast]; omega⟩]; decide)]
    obtain ⟨w1, w2, w3⟩ := r1.2.2.2.2 x hx
    rw [o_gr r1.1 r1.2.2.1, Option.bind_some, o_ar r1.2.2.2.1 (by decide) hx w1, Option.bind_some, o_gr w3.1 w3.2.2.2.1.2.2.2, Option.bind_some, o_a w3.2.2.1 (by have := w3.2.2.2.2.1; omega), Option.bind_some, (w3.2.2.2.2.2.2.2 y (by omega)).2.2, Int.toNat_natCast, Int.toNat_natCast]
    exact ⟨rfl, rfl⟩
  · right
    rw [if_neg (show ¬ ¬ (if (((0 ≤ p ∧ p < s.1.length) ∧ 0 ≤ i ∧ i < (M p.toNat).length) ∧ (0 : Int) ≤ 0 ∧ (0 : Int) < qN s p.toNat) then (1 : Int) else 0) = 0 by rw [if_neg (fun z => c z.1)]; decide)]
    exact ⟨rfl, rfl⟩
/-- answer() -/
theorem k_180 {i k v t : Int} (h : cHs S G A (T, lns, hr, tx, kp, mt, pl, rf) n) (hst : stAn kp i k t v) : (t = 0 ∧ c180 f 64 i k (S, G, m) = some (.inr v, (S, G, m))) ∨ (t = 1 ∧ c180 f 64 i k (S, G, m) = some (.inl 1, cq_ex (S, G, m))) := by
  obtain ⟨⟨a1, a2, a3, a4⟩, _, _, _, _, _, _, ⟨an, sp, k1, k2, k3, W, hW, k4⟩, _⟩ := h
  have l1 : (kp.2.map (fun v => ((v, 0) : pRw))).length = kp.2.length := List.length_map _
  have h30 : c180_30 f (S, G, m) = some (.inl 1, cq_ex (S, G, m)) := rfl
  have bad : ¬ ((0 ≤ i ∧ i < kp.2.length) ∧ 0 ≤ k ∧ k < kp.1) → c180 f 64 i k (S, G, m) = some (.inl 1, cq_ex (S, G, m)) → (t = 0 ∧ c180 f 64 i k (S, G, m) = some (.inr v, (S, G, m))) ∨ (t = 1 ∧ c180 f 64 i k (S, G, m) = some (.inl 1, cq_ex (S, G, m))) := fun hn he => by
    rcases hst with ⟨z, _⟩ | ⟨_, z, _⟩
    · exact absurd z hn
    · exact .inr ⟨z, he⟩
  by_cases c1 : i < 0
  · refine bad (fun z => by have := z.1.1; omega) ?_
    unfold c180
    rw [if_pos c1, h30]
  · by_cases c2 : (kp.2.length : Int) ≤ i
    · refine bad (fun z => by have := z.1.2; omega) ?_
      unfold c180
      rw [if_neg c1, o_gr (s64 a1) k2, Option.bind_some, o_gi k4.1, Option.bind_some, k4.2.2.2.1.2.1, l1, if_pos c2, h30]
    · have ew : W = kp.1 := hW (fun e => by rw [e] at c2; have : ((([] : List (List Int)).length : Nat) : Int) = 0 := rfl; omega)
      subst ew
      by_cases c3 : k < 0
      · refine bad (fun z => by have := z.2.1; omega) ?_
        unfold c180
        rw [if_neg c1, o_gr (s64 a1) k2, Option.bind_some, o_gi k4.1, Option.bind_some, k4.2.2.2.1.2.1, l1, if_neg c2, if_pos c3, h30]
      · by_cases c4 : k < (kp.1 : Int)
        · have i1 : cq_is 5 4 an (S, G, m) = some () := if_pos k4.1
          obtain ⟨x, rfl⟩ : ∃ x : Nat, i = (x : Int) := ⟨i.toNat, by omega⟩
          obtain ⟨y, rfl⟩ : ∃ y : Nat, k = (y : Int) := ⟨k.toNat, by omega⟩
          rcases hst with ⟨z, rfl, rfl⟩ | ⟨z, _⟩
          · refine .inl ⟨rfl, ?_⟩
            unfold c180
            rw [if_neg c1, o_gr (s64 a1) k2, Option.bind_some, o_gi k4.1, Option.bind_some, k4.2.2.2.1.2.1, l1, if_neg c2, if_neg c3, Option.bind_some, o_gi k4.1, Option.bind_some, k4.2.2.2.1.1, if_pos c4, Option.bind_some, i1, Option.bind_some, k_70 k4 (by rw [l1]; omega) (by omega), Option.bind_some, Int.toNat_natCast, Int.toNat_natCast, getD_e (show x < _ by rw [l1]; omega), List.getElem_map, getD_e (show x < kp.2.length by omega)]
          · exact absurd ⟨⟨by omega, by omega⟩, by omega, by omega⟩ z
        · refine bad (fun z => by have := z.2.2; omega) ?_
          unfold c180
          rw [if_neg c1, o_gr (s64 a1) k2, Option.bind_some, o_gi k4.1, Option.bind_some, k4.2.2.2.1.2.1, l1, if_neg c2, if_neg c3, Option.bind_some, o_gi k4.1, Option.bind_some, k4.2.2.2.1.1, if_neg c4, h30]
end
