section
/-! THE CLASS: small questions -/
section
variable {f A q mp rp nx nq hr n sl : Nat} {S : Nat → Nat × Nat × Nat} {G : xG_} {m : Nat × Nat} {s : pPg} {xr cr : Nat → Nat} {M M' : Nat → List pRw} {T : List (List Int)} {P : Nat → Nat} {mo : sMo} {lns : Nat → sLn} {tx : List Int} {kp : Nat × List (List Int)} {mt : Int × List Int} {pl rf : Int}
theorem o_a {x kk L z : Nat} (h : S x = (2, kk, L)) (hz : z < L) : cq_a kk x (z : Int) (S, G, m) = some (G x z) := by
  unfold cq_a
  simp only [h]
  rw [if_pos ⟨trivial, trivial, by omega, by omega⟩, Int.toNat_natCast]
theorem cMr.cg (h : cMr S G nx mp q rp s xr cr M) (e : ∀ p, p < s.1.length → M p = M' p) : cMr S G nx mp q rp s xr cr M' := ⟨h.1, h.2.1, h.2.2.1, h.2.2.2.1, fun p hp => by rw [← e p hp]; exact h.2.2.2.2 p hp⟩
theorem okM8.cg (h : okM8 s M) (e : ∀ p, p < s.1.length → M p = M' p) : okM8 s M' := fun p hp => by rw [← e p hp]; exact h p hp
/-- a moment's program and rows -/
theorem cMo.pm (h : cMo T S G A P mp mo) (hE : cEd T S G A P) (hi : isMo T mo s M) : ∃ (rp : Nat) (xr cr : Nat → Nat) (nq : Nat), cMr S G A mp (P mo.1) rp s xr cr M ∧ cPgm S G (P mo.1) nq s ∧ nq ≤ A ∧ qOc s ∧ okM8 s M ∧ (P mo.1 = 229 ∧ nq ≤ 243 ∨ 555 < P mo.1) ∧ sfP A mp ∧ sfP A rp ∧ ∀ p, p < s.1.length → xr p + 2 < 216 ∨ 555 < xr p := by
  obtain ⟨s1, M1, rp, xr, cr, tp, ac, to, a1, a2, a3, _, _, a4, ⟨a5, a6, _⟩, a7, _⟩ := h
  obtain ⟨e1, e2⟩ := isMo_u a1 hi
  subst e1
  obtain ⟨_, ⟨s2, nq, c1, c2, c3, c4, c5⟩, _⟩ := hE.1 _ a4
  have e3 : s1 = s2 := by
    have := hi.2.1
    rw [c1] at this
    injection this with z
    exact z.symm
  subst e3
  exact ⟨rp, xr, cr, nq, a3.cg e2, c3, c4, c2, a2.cg e2, c5, a5, a6, a7⟩
theorem k_15 {p i col : Int} (hok : qOk s) (hM : cMr S G nx mp q rp s xr cr M) (hP : cPgm S G q nq s) : c15 f mp p i col (S, G, m) = some (if (((0 ≤ p ∧ p < s.1.length) ∧ 0 ≤ i ∧ i < (M p.toNat).length) ∧ 0 ≤ col ∧ col < qN s p.toNat) then 1 else 0, (S, G, m)) := by
  obtain ⟨h1, h2, h3, h4, h5⟩ := hM
  obtain ⟨p1, p2, p3, p4, _⟩ := hP
  have h53 : c15_53 f (S, G, m) = some (0, (S, G, m)) := by unfold c15_53 c15_54; rw [if_pos (.inl rfl)]
  have h54 : c15_54 f 1 (S, G, m) = some (1, (S, G, m)) := by unfold c15_54; rw [if_pos (.inr rfl)]
  have ng : ∀ {P : Prop} [Decidable P], ¬ P → (some ((0 : Int), (S, G, m)) : Option (Int × xT_)) = some (if P then 1 else 0, (S, G, m)) := fun {P} _ hP => by rw [if_neg hP]
  unfold c15
  by_cases c1 : p < 0
  · rw [if_pos c1, h53, if_neg (fun z => by have := z.1.1.1; omega)]
  · rw [if_neg c1, o_gr h1 h2, Option.bind_some, o_gi p1.1, Option.bind_some, p3.1]
    by_cases c2 : (s.1.length : Int) ≤ p
    · rw [if_pos c2, h53, if_neg (fun z => by have := z.1.1.2; omega)]
    · rw [if_neg c2]
      obtain ⟨x, rfl⟩ : ∃ x : Nat, p = (x : Int) := ⟨p.toNat, by omega⟩
      have hx : x < s.1.length := by omega
      obtain ⟨b1, b2, b3⟩ := h5 x hx
      rw [Int.toNat_natCast]
      by_cases c3 : i < 0
      · rw [if_pos c3, h53, if_neg (fun z => by have := z.1.2.1; omega)]
      · rw [if_neg c3, o_gr h1 h3, Option.bind_some, o_ar h4 (by decide) hx b1, Option.bind_some, o_gi b3.1, Option.bind_some, b3.2.2.2.1.2.1]
        by_cases c4 : ((M x).length : Int) ≤ i
        · rw [if_pos c4, h53, if_neg (fun z => by have := z.1.2.2; omega)]
        · rw [if_neg c4]
          by_cases c5 : col < 0
          · rw [if_pos c5, h53, if_neg (fun z => by have := z.2.1; omega)]
          · have w := qN_c hok.1 x
            rw [if_neg c5, Option.bind_some, o_gr p1.1 p2.2.1, Option.bind_some, o_a p1.2.2.1 (by have := p3.2.1; omega), Option.bind_some, p4 x (by have := p3.2.1; omega), ← w.1]
            by_cases c6 : ((qN s x : Nat) : Int) ≤ col
            · rw [if_pos c6, h53, if_neg (fun z => by have := z.2.2; omega)]
            · rw [if_neg c6, h54, if_pos ⟨⟨⟨by omega, by omega⟩, by omega, by omega⟩, by omega, by omega⟩]
/-- the line in use, its latest moment -/
theorem hs_ln (h : cHs S G A (T, lns, hr, tx, kp, mt, pl, rf) n) (hb : (lns hr).2.1.1 + (lns hr).2.1.2.1 < 520) : ∃ (P : Nat → Nat) (mp : Nat), cEd T S G A P ∧ cMo T S G A P mp (lMo (lns hr)) ∧ cLn T S G A P (243 + 9 * hr) (lns hr) ∧ lnSt S (243 + 9 * hr) ∧ lnPt G (243 + 9 * hr) ∧ G 220 hr = ((243 + 9 * hr : Nat) : Int) ∧ (∀ (f : Nat) (m : Nat × Nat), c5 f (243 + 9 * hr) (S, G, m) = some (mp, (S, G, m))) ∧ hr < 4 ∧ G 64 6 = (hr : Int) ∧ G (mp) 7 = ((lns hr).2.1.2.2 : Int) := by
  obtain ⟨⟨a1, a2, a3, a4⟩, ⟨P, b1, b2, b3⟩, ⟨c1, c2⟩, _⟩ := h
  have l := b2 hr c1
  obtain ⟨⟨⟨l1, l2⟩, mp, l3, l4⟩, _⟩ := id l
  obtain ⟨d1, d2, x, d3, d4⟩ := l3 _ (Nat.le_add_right _ _) (Nat.le_refl _)
  rw [Nat.sub_self] at d4
  have d4' : x + 0 = (lns hr).2.1.2.2 := d4
  refine ⟨P, mp _, b1, d2, l, lnSt_of a1 c1, lnPt_of a2 c1, p_ln a2 c1, fun f m => k_5 (lnSt_of a1 c1) (lnPt_of a2 c1) l1 hb d1, c1, c2, by rw [d3, ← d4']; rfl⟩
/-- value() -/
theorem k_176 {p i col v t : Int} (h : cHs S G A (T, lns, hr, tx, kp, mt, pl, rf) n) (hb : (lns hr).2.1.1 + (lns hr).2.1.2.1 < 520) (hst : stVa T (lns hr) p i col t v) : (t = 0 ∧ c176 f 64 p i col (S, G, m) = some (.inr v, (S, G, m))) ∨ (t = 1 ∧ c176 f 64 p i col (S, G, m) = some (.inl 1, cq_ex (S, G, m))) := by
  obtain ⟨P, mp, b1, b2, b3, b4, b5, b6, b7, b8, b9, b10⟩ := hs_ln h hb
  obtain ⟨⟨a1, a2, a3, a4⟩, _⟩ := h
  obtain ⟨s, M, i1, i2⟩ := hst
  obtain ⟨rp, xr, cr, nq, r1, r2, r3, r4, r5, r6⟩ := b2.pm b1 i1
  have i3 : cq_is 1 14 (243 + 9 * hr) (S, G, m) = some () := if_pos b4.1
  have i4 : cq_is 2 8 mp (S, G, m) = some () := if_pos r1.1
  have g6 : cq_gi 11 6 17 64 (S, G, m) = some (hr : Int) := by rw [o_gi (s64 a1), b9]
  unfold c176
  rw [o_gr (y := 220) (s64 a1) (p64_5 a2), Option.bind_some, g6, Option.bind_some, o_ar (s220 a1) (by decide) b8 b6, Option.bind_some, i3, Option.bind_some, b7, Option.bind_some, i4, Option.bind_some, k_15 r4.1 r1 r2, Option.bind_some]
  rcases i2 with ⟨c, rfl, rfl⟩ | ⟨c, rfl, rfl⟩
  · left
    rw [if_pos (show ¬ (if (((0 ≤ p ∧ p < s.1.length) ∧ 0 ≤ i ∧ i < (M p.toNat).length) ∧ 0 ≤ col ∧ col < qN s p.toNat) then (1 : Int) else 0) = 0 by rw [if_pos c]; decide)]
    obtain ⟨x, rfl⟩ : ∃ x : Nat, p = (x : Int) := ⟨p.toNat, by omega⟩
    obtain ⟨y, rfl⟩ : ∃ y : Nat, i = (y : Int) := ⟨i.toNat, by omega⟩
    obtain ⟨z, rfl⟩ : ∃ z : Nat, col = (z : Int) := ⟨col.toNat, by omega⟩
    rw [Int.toNat_natCast] at c
    have hx : x < s.1.length := by omega
    obtain ⟨w1, w2, w3⟩ := r1.2.2.2.2 x hx
    have i5 : cq_is 5 4 (xr x) (S, G, m) = some () := if_pos w3.1
    rw [o_gr r1.1 r1.2.2.1, Option.bind_some, o_ar r1.2.2.2.1 (by decide) hx w1, Option.bind_some, i5, Option.bind_some, k_70 w3 (by omega) (by omega), Option.bind_some, Int.toNat_natCast, Int.toNat_natCast, Int.toNat_natCast]
    exact ⟨rfl, rfl⟩
  · right
    rw [if_neg (show ¬ ¬ (if (((0 ≤ p ∧ p < s.1.length) ∧ 0 ≤ i ∧ i < (M p.toNat).length) ∧ 0 ≤ col ∧ col < qN s p.toNat) then (1 : Int) else 0) = 0 by rw [if_neg c]; decide)]
    exact ⟨rfl, rfl⟩
/-- rank() -/
theorem k_181 {p i v t : Int} (h : cHs S G A (T, lns, hr, tx, kp, mt, pl, rf) n) (hb : (lns hr).2.1.1 + (lns hr).2.1.2.1 < 520) (hst : stRk T (lns hr) p i t v) : (t = 0 ∧ c181 f 64 p i (S, G, m) = some (.inr v, (S, G, m))) ∨ (t = 1 ∧ c181 f 64 p i (S, G, m) = some (.inl 1, cq_ex (S, G, m))) := by
  obtain ⟨P, mp, b1, b2, b3, b4, b5, b6, b7, b8, b9, b10⟩ := hs_ln h hb
  obtain ⟨⟨a1, a2, a3, a4⟩, _⟩ := h
  obtain ⟨s, M, i1, i2⟩ := hst
  obtain ⟨rp, xr, cr, nq, r1, r2, r3, r4, r5, r6⟩ := b2.pm b1 i1
  have i3 : cq_is 1 14 (243 + 9 * hr) (S, G, m) = some () := if_pos b4.1
  have i4 : cq_is 2 8 mp (S, G, m) = some () := if_pos r1.1
  have g6 : cq_gi 11 6 17 64 (S, G, m) = some (hr : Int) := by rw [o_gi (s64 a1), b9]
  unfold c181
  rw [o_gr (y := 220) (s64 a1) (p64_5 a2), Option.bind_some, g6, Option.bind_some, o_ar (s220 a1) (by decide) b8 b6, Option.bind_some, i3, Option.bind_some, b7, Option.bind_some, i4, Option.bind_some, k_15 r4.1 r1 r2, Option.bind_some]
  rcases i2 with ⟨c, rfl, rfl⟩ | ⟨c, rfl, rfl⟩
  · left
    obtain ⟨x, rfl⟩ : ∃ x : Nat, p = (x : Int) := ⟨p.toNat, by omega⟩
    obtain ⟨y, rfl⟩ : ∃ y : Nat, i = (y : Int) := ⟨i.toNat, by omega⟩
    rw [Int.toNat_natCast] at c
    have hx : x < s.1.length := by omega
    have hq := qN_pos r4 hx
    rw [if_pos (show ¬ (if (((0 ≤ (x : Int) ∧ (x : Int) < s.1.length) ∧ 0 ≤ (y : Int) ∧ (y : Int) < (M (x : Int).toNat).length) ∧ (0 : Int) ≤ 0 ∧ (0 : Int) < qN s (x : Int).toNat) then (1 : Int) else 0) = 0 by rw [if_pos ⟨by rw [Int.toNat_natCast]; exact c, by omega, by rw [Int.toNat_natCast]; omega⟩]; decide)]
    obtain ⟨w1, w2, w3⟩ := r1.2.2.2.2 x hx
    rw [o_gr r1.1 r1.2.2.1, Option.bind_some, o_ar r1.2.2.2.1 (by decide) hx w1, Option.bind_some, o_gr w3.1 w3.2.2.2.1.2.2.2, Option.bind_some, o_a w3.2.2.1 (by have := w3.2.2.2.2.1; omega), Option.bind_some, (w3.2.2.2.2.2.2.2 y (by omega)).2.2, Int.toNat_natCast, Int.toNat_natCast]
    exact ⟨rfl, rfl⟩
  · right
    rw [if_neg (show ¬ ¬ (if (((0 ≤ p ∧ p < s.1.length) ∧ 0 ≤ i ∧ i < (M p.toNat).length) ∧ (0 : Int) ≤ 0 ∧ (0 : Int) < qN s p.toNat) then (1 : Int) else 0) = 0 by rw [if_neg (fun z => c z.1)]; decide)]
    exact ⟨rfl, rfl⟩
/-- answer() -/
theorem k_180 {i k v t : Int} (h : cHs S G A (T, lns, hr, tx, kp, mt, pl, rf) n) (hst : stAn kp i k t v) : (t = 0 ∧ c180 f 64 i k (S, G, m) = some (.inr v, (S, G, m))) ∨ (t = 1 ∧ c180 f 64 i k (S, G, m) = some (.inl 1, cq_ex (S, G, m))) := by
  obtain ⟨⟨a1, a2, a3, a4⟩, _, _, _, _, _, _, ⟨an, sp, k1, k2, k3, W, hW, k4⟩, _⟩ := h
  have l1 : (kp.2.map (fun v => ((v, 0) : pRw))).length = kp.2.length := List.length_map _
  have h30 : c180_30 f (S, G, m) = some (.inl 1, cq_ex (S, G, m)) := rfl
  have bad : ¬ ((0 ≤ i ∧ i < kp.2.length) ∧ 0 ≤ k ∧ k < kp.1) → c180 f 64 i k (S, G, m) = some (.inl 1, cq_ex (S, G, m)) → (t = 0 ∧ c180 f 64 i k (S, G, m) = some (.inr v, (S, G, m))) ∨ (t = 1 ∧ c180 f 64 i k (S, G, m) = some (.inl 1, cq_ex (S, G, m))) := fun hn he => by
    rcases hst with ⟨z, _⟩ | ⟨_, z, _⟩
    · exact absurd z hn
    · exact .inr ⟨z, he⟩
  by_cases c1 : i < 0
  · refine bad (fun z => by have := z.1.1; omega) ?_
    unfold c180
    rw [if_pos c1, h30]
  · by_cases c2 : (kp.2.length : Int) ≤ i
    · refine bad (fun z => by have := z.1.2; omega) ?_
      unfold c180
      rw [if_neg c1, o_gr (s64 a1) k2, Option.bind_some, o_gi k4.1, Option.bind_some, k4.2.2.2.1.2.1, l1, if_pos c2, h30]
    · have ew : W = kp.1 := hW (fun e => by rw [e] at c2; have : ((([] : List (List Int)).length : Nat) : Int) = 0 := rfl; omega)
      subst ew
      by_cases c3 : k < 0
      · refine bad (fun z => by have := z.2.1; omega) ?_
        unfold c180
        rw [if_neg c1, o_gr (s64 a1) k2, Option.bind_some, o_gi k4.1, Option.bind_some, k4.2.2.2.1.2.1, l1, if_neg c2, if_pos c3, h30]
      · by_cases c4 : k < (kp.1 : Int)
        · have i1 : cq_is 5 4 an (S, G, m) = some () := if_pos k4.1
          obtain ⟨x, rfl⟩ : ∃ x : Nat, i = (x : Int) := ⟨i.toNat, by omega⟩
          obtain ⟨y, rfl⟩ : ∃ y : Nat, k = (y : Int) := ⟨k.toNat, by omega⟩
          rcases hst with ⟨z, rfl, rfl⟩ | ⟨z, _⟩
          · refine .inl ⟨rfl, ?_⟩
            unfold c180
            rw [if_neg c1, o_gr (s64 a1) k2, Option.bind_some, o_gi k4.1, Option.bind_some, k4.2.2.2.1.2.1, l1, if_neg c2, if_neg c3, Option.bind_some, o_gi k4.1, Option.bind_some, k4.2.2.2.1.1, if_pos c4, Option.bind_some, i1, Option.bind_some, k_70 k4 (by rw [l1]; omega) (by omega), Option.bind_some, Int.toNat_natCast, Int.toNat_natCast, getD_e (show x < _ by rw [l1]; omega), List.getElem_map, getD_e (show x < kp.2.length by omega)]
          · exact absurd ⟨⟨by omega, by omega⟩, by omega, by omega⟩ z
        · refine bad (fun z => by have := z.2.2; omega) ?_
          unfold c180
          rw [if_neg c1, o_gr (s64 a1) k2, Option.bind_some, o_gi k4.1, Option.bind_some, k4.2.2.2.1.2.1, l1, if_neg c2, if_neg c3, Option.bind_some, o_gi k4.1, Option.bind_some, k4.2.2.2.1.1, if_neg c4, h30]
end
end
section
/-! THE CLASS: small questions, further -/
theorem fa_len {s : pPg} {M : Nat → List pRw} {F : List pFc} (hok : qOk s) (hM : qTb s M) (hF : qFa s M F) : F.length = qTo M s.1.length := by
  have h := lg_new (s := s) (so := s) (R := M) (Mo := fun _ => []) (A := fun _ => []) (F := F) (Fo := []) hok hok hM (fun p hp => ⟨Nat.zero_le _, List.Pairwise.nil, fun w hw => by cases hw⟩) hF ⟨List.Pairwise.nil, fun y => ⟨fun z => absurd z List.not_mem_nil, fun ⟨p, _, _, w, z, _⟩ => absurd z List.not_mem_nil⟩⟩ (fun p hp => .inl ⟨p, hp, rfl, rfl, rfl⟩)
  rw [List.filter_eq_self.mpr (fun y _ => by rfl)] at h
  rw [h]
  have : ∀ k, qTo (fun p => (M p).filter (fun w => ! hasV [] w.1)) k = qTo M k := by
    intro k
    induction k with
    | zero => rfl
    | succ k ih =>
      show qTo _ k + ((M k).filter _).length = qTo M k + (M k).length
      rw [ih, List.filter_eq_self.mpr (fun y _ => by rfl)]
  exact this _
section
variable {f A q mp rp nx nq hr n sl : Nat} {S : Nat → Nat × Nat × Nat} {G : xG_} {m : Nat × Nat} {s : pPg} {xr cr : Nat → Nat} {M M' : Nat → List pRw} {T : List (List Int)} {P : Nat → Nat} {mo : sMo} {lns : Nat → sLn} {tx : List Int} {kp : Nat × List (List Int)} {mt : Int × List Int} {pl rf : Int}
theorem k_16l (h16 : s.1.length ≤ 16) (hl : ∀ p, p < s.1.length → (M p).length ≤ 100) (hM : cMr S G nx mp q rp s xr cr M) (hP : cPgm S G q nq s) : ∀ (d p fu : Nat), p + d = s.1.length → d < fu → c16_4 f fu mp (qTo M p : Int) (p : Int) (S, G, m) = some ((qTo M s.1.length : Int), (S, G, m)) := by
  obtain ⟨h1, h2, h3, h4, h5⟩ := hM
  intro d
  induction d with
  | zero =>
    intro p fu e1 e2
    obtain ⟨fu, rfl⟩ : ∃ t, fu = t + 1 := ⟨fu - 1, by omega⟩
    have e : p = s.1.length := by omega
    subst e
    show c16_4b (c16_4 f fu) f _ _ _ _ = _
    unfold c16_4b
    rw [o_gr h1 h2, Option.bind_some, o_gi hP.1.1, Option.bind_some, hP.2.2.1.1, if_pos (Int.le_refl _)]
  | succ d ih =>
    intro p fu e1 e2
    obtain ⟨fu, rfl⟩ : ∃ t, fu = t + 1 := ⟨fu - 1, by omega⟩
    have hp : p < s.1.length := by omega
    obtain ⟨b1, b2, b3⟩ := h5 p hp
    have t1 := qTo_le (R := M) p (fun x hx => hl x (by omega))
    have t2 := hl p hp
    show c16_4b (c16_4 f fu) f _ _ _ _ = _
    unfold c16_4b
    rw [o_gr h1 h2, Option.bind_some, o_gi hP.1.1, Option.bind_some, hP.2.2.1.1, if_neg (by omega), o_gr h1 h3, Option.bind_some, o_ar h4 (by decide) hp b1, Option.bind_some, o_gi b3.1, Option.bind_some, b3.2.2.2.1.2.1, xwr_g _ (by omega) (by omega), xwr_g _ (by omega) (by omega)]
    have e3 : (qTo M p : Int) + ((M p).length : Int) = (qTo M (p + 1) : Int) := by
      show _ = ((qTo M p + (M p).length : Nat) : Int)
      omega
    rw [e3]
    exact ih (p + 1) fu (by omega) (by omega)
/-- count() -/
theorem k_174 {w v : Int} (hf : 20 < f) (h : cHs S G A (T, lns, hr, tx, kp, mt, pl, rf) n) (hb : (lns hr).2.1.1 + (lns hr).2.1.2.1 < 520) (hst : stCo T (lns hr) hr tx.length rf w v) : c174 f 64 w (S, G, m) = some (v, (S, G, m)) := by
  obtain ⟨P, mp, b1, b2, b3, b4, b5, b6, b7, b8, b9, b10⟩ := hs_ln h hb
  obtain ⟨⟨a1, a2, a3, a4⟩, _, _, _, a5, a6, a7, _⟩ := h
  obtain ⟨s, M, i1, i2⟩ := hst
  obtain ⟨rp, xr, cr, nq, r1, r2, r3, r4, r5, r6⟩ := b2.pm b1 i1
  have i3 : cq_is 1 14 (243 + 9 * hr) (S, G, m) = some () := if_pos b4.1
  have i4 : cq_is 2 8 mp (S, G, m) = some () := if_pos r1.1
  have g6 : cq_gi 11 6 17 64 (S, G, m) = some (hr : Int) := by rw [o_gi (s64 a1), b9]
  obtain ⟨⟨⟨l1, l2⟩, _⟩, _, _, ⟨_, _, l5⟩, _⟩ := b3
  have h16 : s.1.length ≤ 16 := r2.2.2.1.2.1
  have e16 : c16 f mp (S, G, m) = some (((lMo (lns hr)).2.1.length : Int), (S, G, m)) := by
    have := k_16l (f := f) (m := m) h16 (fun p hp => (r5 p hp).2.1) r1 r2 s.1.length 0 f (by omega) (by omega)
    rw [fa_len r4.1 i1.2.2.2.2.1.1.1 i1.2.2.2.2.2.1]
    exact this
  rw [i2]
  unfold c174
  rw [o_gr (y := 220) (s64 a1) (p64_5 a2), Option.bind_some, g6, Option.bind_some, o_ar (s220 a1) (by decide) b8 b6, Option.bind_some, i3, Option.bind_some, b7, Option.bind_some]
  by_cases c : w < 0 ∨ 9 < w
  · rw [if_pos c, if_neg (by omega), if_neg (by omega), if_neg (by omega), if_neg (by omega), if_neg (by omega), if_neg (by omega), if_neg (by omega), if_neg (by omega), if_neg (by omega), if_neg (by omega)]
  · rw [if_neg c]
    rcases (by omega : w = 0 ∨ w = 1 ∨ w = 2 ∨ w = 3 ∨ w = 4 ∨ w = 5 ∨ w = 6 ∨ w = 7 ∨ w = 8 ∨ w = 9) with rfl | rfl | rfl | rfl | rfl | rfl | rfl | rfl | rfl | rfl
    · simp only [Int.reduceEq, reduceIte]
      rw [o_gi b4.1, Option.bind_some, l1]
    · simp only [Int.reduceEq, reduceIte]
      rw [o_gi b4.1, Option.bind_some, l2]
    · simp only [Int.reduceEq, reduceIte]
      rw [o_gr r1.1 r1.2.1, Option.bind_some, o_gi r2.1.1, Option.bind_some, r2.2.2.1.1]
    · simp only [Int.reduceEq, reduceIte]
      rw [o_gr r1.1 r1.2.1, Option.bind_some, o_gi r2.1.1, Option.bind_some, r2.2.2.2.2.2.1.1]
    · simp only [Int.reduceEq, reduceIte]
      rw [o_gi b4.1, Option.bind_some, l5.1]
    · simp only [Int.reduceEq, reduceIte]
      rw [g6, Option.bind_some]
    · simp only [Int.reduceEq, reduceIte]
      rw [i4, Option.bind_some, e16, Option.bind_some]
    · simp only [Int.reduceEq, reduceIte]
      rw [o_gi r1.1, Option.bind_some, b10]
    · simp only [Int.reduceEq, reduceIte]
      rw [o_gi (s64 a1), Option.bind_some, a5]
    · simp only [Int.reduceEq, reduceIte]
      rw [o_gr (y := 65) (s64 a1) (p64_0 a2), Option.bind_some, o_gi (s65 a1), Option.bind_some, a7.1]
/-- place() -/
theorem k_171 (h : cHs S G A (T, lns, hr, tx, kp, mt, pl, rf) n) : c171 f 64 (S, G, m) = some (pl, (S, G, m)) := by
  obtain ⟨⟨a1, a2, a3, a4⟩, _, _, _, a5, a6, a7, _⟩ := h
  unfold c171
  rw [o_gi (s64 a1), Option.bind_some, a6]
/-- met() -/
theorem k_191 {w v t : Int} (h : cHs S G A (T, lns, hr, tx, kp, mt, pl, rf) n) (hst : stMe mt w t v) : (t = 0 ∧ c191 f 64 w (S, G, m) = some (.inr v, (S, G, m))) ∨ (t = 1 ∧ c191 f 64 w (S, G, m) = some (.inl 1, cq_ex (S, G, m))) := by
  obtain ⟨⟨a1, a2, a3, a4⟩, _, _, _, _, _, _, _, ⟨m1, m2, m3, m4⟩⟩ := h
  have h20 : c191_20 f (S, G, m) = some (.inl 1, cq_ex (S, G, m)) := rfl
  have h48 : ∀ v, c191_48 f v (S, G, m) = some (.inr v, (S, G, m)) := fun v => rfl
  have g15 : cq_gi 11 15 17 64 (S, G, m) = some mt.1 := by rw [o_gi (s64 a1), m1]
  have bad : ¬ (mt.1 ≠ -1 ∧ 0 ≤ w ∧ w ≤ mt.2.length) → c191 f 64 w (S, G, m) = some (.inl 1, cq_ex (S, G, m)) → (t = 0 ∧ c191 f 64 w (S, G, m) = some (.inr v, (S, G, m))) ∨ (t = 1 ∧ c191 f 64 w (S, G, m) = some (.inl 1, cq_ex (S, G, m))) := fun hn he => by
    rcases hst with ⟨z, _⟩ | ⟨_, z, _⟩
    · exact absurd z hn
    · exact .inr ⟨z, he⟩
  by_cases c1 : mt.1 = -1
  · refine bad (fun z => z.1 c1) ?_
    unfold c191
    rw [g15, Option.bind_some, if_pos c1, h20]
  · by_cases c2 : w < 0
    · refine bad (fun z => by have := z.2.1; omega) ?_
      unfold c191
      rw [g15, Option.bind_some, if_neg c1, if_pos c2, h20]
    · by_cases c3 : w ≤ (mt.2.length : Int)
      · rcases hst with ⟨z, rfl, rfl⟩ | ⟨z, _⟩
        · refine .inl ⟨rfl, ?_⟩
          unfold c191
          rw [g15, Option.bind_some, if_neg c1, if_neg c2, o_gi (s64 a1), Option.bind_some, m2, if_pos c3]
          by_cases c4 : w = 0
          · rw [if_neg (fun z => z c4), Option.bind_some, h48, if_pos c4]
          · obtain ⟨x, rfl⟩ : ∃ x : Nat, w = ((x + 1 : Nat) : Int) := ⟨(w - 1).toNat, by omega⟩
            have e : xwr (((x + 1 : Nat) : Int) - 1) = (x : Int) := by rw [xwr_g _ (by omega) (by omega)]; omega
            have e2 : (((x + 1 : Nat) : Int) - 1).toNat = x := by omega
            rw [if_pos c4, o_gr (y := 227) (s64 a1) (p64_14 a2), Option.bind_some, e, o_a (s227 a1) (by omega), Option.bind_some, h48, m4 x (by omega), if_neg c4, e2]
        · exact absurd ⟨c1, by omega, c3⟩ z
      · refine bad (fun z => c3 z.2.2) ?_
        unfold c191
        rw [g15, Option.bind_some, if_neg c1, if_neg c2, o_gi (s64 a1), Option.bind_some, m2, if_neg c3, h20]
end
end
section
/-! THE CLASS: past(), pastValue(), sheet() -/
section
variable {f A q mp rp nx nq hr n sl : Nat} {S : Nat → Nat × Nat × Nat} {G : xG_} {m : Nat × Nat} {s : pPg} {xr cr : Nat → Nat} {M M' : Nat → List pRw} {T : List (List Int)} {P : Nat → Nat} {mo : sMo} {lns : Nat → sLn} {tx : List Int} {kp : Nat × List (List Int)} {mt : Int × List Int} {pl rf : Int}
theorem hs_rd (h : cHs S G A (T, lns, hr, tx, kp, mt, pl, rf) n) : ∃ (P : Nat → Nat) (mp : Nat → Nat), cEd T S G A P ∧ (G (243 + 9 * hr) 1 = (((lns hr).2.1.1 + (lns hr).2.1.2.1 : Nat) : Int) ∧ G (243 + 9 * hr) 2 = ((lns hr).2.1.1 : Int)) ∧ (∀ r, (lns hr).2.1.1 ≤ r → r ≤ (lns hr).2.1.1 + (lns hr).2.1.2.1 → G (243 + 9 * hr + 1) r = (mp r : Int) ∧ cMo T S G A P (mp r) ((lns hr).1 r)) ∧ lnSt S (243 + 9 * hr) ∧ lnPt G (243 + 9 * hr) ∧ G 220 hr = ((243 + 9 * hr : Nat) : Int) ∧ hr < 4 ∧ G 64 6 = (hr : Int) := by
  obtain ⟨⟨a1, a2, a3, a4⟩, ⟨P, b1, b2, b3⟩, ⟨c1, c2⟩, _⟩ := h
  obtain ⟨⟨⟨l1, l2⟩, mp, l3, l4⟩, _⟩ := b2 hr c1
  exact ⟨P, mp, b1, ⟨l1, l2⟩, fun r r1 r2 => ⟨(l3 r r1 r2).1, (l3 r r1 r2).2.1⟩, lnSt_of a1 c1, lnPt_of a2 c1, p_ln a2 c1, c1, c2⟩
/-- past() -/
theorem k_184 {r p v : Int} (h : cHs S G A (T, lns, hr, tx, kp, mt, pl, rf) n) (hb : (lns hr).2.1.1 + (lns hr).2.1.2.1 < 520) (hst : stPa T (lns hr) r p v) : c184 f 64 r p (S, G, m) = some (v, (S, G, m)) := by
  obtain ⟨P, mp, b1, ⟨l1, l2⟩, b3, b4, b5, b6, b8, b9⟩ := hs_rd h
  obtain ⟨⟨a1, a2, a3, a4⟩, _⟩ := h
  have i3 : cq_is 1 14 (243 + 9 * hr) (S, G, m) = some () := if_pos b4.1
  have g6 : cq_gi 11 6 17 64 (S, G, m) = some (hr : Int) := by rw [o_gi (s64 a1), b9]
  have h38 : c184_38 f (S, G, m) = some (-1, (S, G, m)) := rfl
  unfold c184
  rw [o_gr (y := 220) (s64 a1) (p64_5 a2), Option.bind_some, g6, Option.bind_some, o_ar (s220 a1) (by decide) b8 b6, Option.bind_some, i3, Option.bind_some, k_6 b4.1 l1 l2, Option.bind_some]
  rcases hst with ⟨i, s, M, i1, rfl, i2, i4⟩ | ⟨i1, rfl⟩
  · rw [if_neg (show ¬ (if (((lns hr).2.1.1 : Int) ≤ (((lns hr).2.1.1 + i : Nat) : Int) ∧ (((lns hr).2.1.1 + i : Nat) : Int) ≤ (((lns hr).2.1.1 + (lns hr).2.1.2.1 : Nat) : Int)) then (1 : Int) else 0) = 0 by rw [if_pos (by omega)]; decide)]
    obtain ⟨m1, m2⟩ := b3 _ (Nat.le_add_right _ i) (Nat.add_le_add_left i1 _)
    obtain ⟨rp, xr, cr, nq, r1, r2, r3, r4, r5, r6⟩ := m2.pm b1 i2
    by_cases c1 : p < 0
    · rw [if_pos c1, h38]
      rcases i4 with z | z
      · omega
      · rw [z.2]
    · rw [if_neg c1, o_gr b4.1 b5.1, Option.bind_some, o_ar b4.2.1 (by decide) (by omega) m1, Option.bind_some, o_gr r1.1 r1.2.1, Option.bind_some, o_gi r2.1.1, Option.bind_some, r2.2.2.1.1]
      by_cases c2 : p < (s.1.length : Int)
      · rcases i4 with z | z
        · obtain ⟨x, rfl⟩ : ∃ x : Nat, p = (x : Int) := ⟨p.toNat, by omega⟩
          have hx : x < s.1.length := by omega
          obtain ⟨w1, w2, w3⟩ := r1.2.2.2.2 x hx
          rw [if_pos c2, Option.bind_some, o_ar b4.2.1 (by decide) (by omega) m1, Option.bind_some, o_gr r1.1 r1.2.2.1, Option.bind_some, o_ar r1.2.2.2.1 (by decide) hx w1, Option.bind_some, o_gi w3.1, Option.bind_some, w3.2.2.2.1.2.1, z.2.2, Int.toNat_natCast]
        · exact absurd ⟨by omega, c2⟩ z.1
      · rw [if_neg c2, h38]
        rcases i4 with z | z
        · omega
        · rw [z.2]
  · rw [if_pos (show (if (((lns hr).2.1.1 : Int) ≤ r ∧ r ≤ (((lns hr).2.1.1 + (lns hr).2.1.2.1 : Nat) : Int)) then (1 : Int) else 0) = 0 by rw [if_neg i1]), h38]
/-- pastValue() -/
theorem k_185 {r p i col v t : Int} (h : cHs S G A (T, lns, hr, tx, kp, mt, pl, rf) n) (hb : (lns hr).2.1.1 + (lns hr).2.1.2.1 < 520) (hsm : ∀ r, (lns hr).2.1.1 ≤ r → r ≤ (lns hr).2.1.1 + (lns hr).2.1.2.1 → ∃ s M, isMo T ((lns hr).1 r) s M) (hst : stPv T (lns hr) r p i col t v) : (t = 0 ∧ c185 f 64 r p i col (S, G, m) = some (.inr v, (S, G, m))) ∨ (t = 1 ∧ c185 f 64 r p i col (S, G, m) = some (.inl 1, cq_ex (S, G, m))) := by
  obtain ⟨P, mp, b1, ⟨l1, l2⟩, b3, b4, b5, b6, b8, b9⟩ := hs_rd h
  obtain ⟨⟨a1, a2, a3, a4⟩, _⟩ := h
  have i3 : cq_is 1 14 (243 + 9 * hr) (S, G, m) = some () := if_pos b4.1
  have g6 : cq_gi 11 6 17 64 (S, G, m) = some (hr : Int) := by rw [o_gi (s64 a1), b9]
  have h37 : c185_37 f (S, G, m) = some (.inl 1, cq_ex (S, G, m)) := rfl
  unfold c185
  rw [o_gr (y := 220) (s64 a1) (p64_5 a2), Option.bind_some, g6, Option.bind_some, o_ar (s220 a1) (by decide) b8 b6, Option.bind_some, i3, Option.bind_some, k_6 b4.1 l1 l2, Option.bind_some]
  by_cases c : ((lns hr).2.1.1 : Int) ≤ r ∧ r ≤ (((lns hr).2.1.1 + (lns hr).2.1.2.1 : Nat) : Int)
  · obtain ⟨x, rfl⟩ : ∃ x : Nat, r = (((lns hr).2.1.1 + x : Nat) : Int) := ⟨(r - (lns hr).2.1.1).toNat, by omega⟩
    have hx : x ≤ (lns hr).2.1.2.1 := by omega
    obtain ⟨m1, m2⟩ := b3 _ (Nat.le_add_right _ x) (Nat.add_le_add_left hx _)
    obtain ⟨s, M, iM⟩ := hsm _ (Nat.le_add_right _ x) (Nat.add_le_add_left hx _)
    obtain ⟨rp, xr, cr, nq, r1, r2, r3, r4, r5, r6⟩ := m2.pm b1 iM
    have i4 : cq_is 2 8 (mp ((lns hr).2.1.1 + x)) (S, G, m) = some () := if_pos r1.1
    rw [if_neg (show ¬ (if (((lns hr).2.1.1 : Int) ≤ (((lns hr).2.1.1 + x : Nat) : Int) ∧ (((lns hr).2.1.1 + x : Nat) : Int) ≤ (((lns hr).2.1.1 + (lns hr).2.1.2.1 : Nat) : Int)) then (1 : Int) else 0) = 0 by rw [if_pos c]; decide), o_gr b4.1 b5.1, Option.bind_some, o_ar b4.2.1 (by decide) (by omega) m1, Option.bind_some, i4, Option.bind_some, k_15 r4.1 r1 r2, Option.bind_some]
    by_cases cc : (((0 ≤ p ∧ p < s.1.length) ∧ 0 ≤ i ∧ i < (M p.toNat).length) ∧ 0 ≤ col ∧ col < qN s p.toNat)
    · rw [if_pos (show ¬ (if (((0 ≤ p ∧ p < s.1.length) ∧ 0 ≤ i ∧ i < (M p.toNat).length) ∧ 0 ≤ col ∧ col < qN s p.toNat) then (1 : Int) else 0) = 0 by rw [if_pos cc]; decide)]
      rcases hst with ⟨x', s', M', k1, k2, k3, k4, k5, k6, rfl, rfl⟩ | ⟨k1, _⟩
      · left
        have e : x' = x := by omega
        subst e
        obtain ⟨e1, e2⟩ := isMo_u iM k3
        subst e1
        obtain ⟨a, rfl⟩ : ∃ a : Nat, p = (a : Int) := ⟨p.toNat, by omega⟩
        obtain ⟨y, rfl⟩ : ∃ y : Nat, i = (y : Int) := ⟨i.toNat, by omega⟩
        obtain ⟨z, rfl⟩ : ∃ z : Nat, col = (z : Int) := ⟨col.toNat, by omega⟩
        rw [Int.toNat_natCast] at cc
        have ha : a < s.1.length := by omega
        obtain ⟨w1, w2, w3⟩ := r1.2.2.2.2 a ha
        have i5 : cq_is 5 4 (xr a) (S, G, m) = some () := if_pos w3.1
        rw [o_gr b4.1 b5.1, Option.bind_some, o_ar b4.2.1 (by decide) (by omega) m1, Option.bind_some, o_gr r1.1 r1.2.2.1, Option.bind_some, o_ar r1.2.2.2.1 (by decide) ha w1, Option.bind_some, i5, Option.bind_some, k_70 w3 (by omega) (by omega), Option.bind_some, Int.toNat_natCast, Int.toNat_natCast, Int.toNat_natCast, e2 a ha]
        exact ⟨rfl, rfl⟩
      · exact absurd ⟨cc.1.1, cc.1.2, cc.2⟩ (k1 x s M hx rfl iM)
    · rw [if_neg (show ¬ ¬ (if (((0 ≤ p ∧ p < s.1.length) ∧ 0 ≤ i ∧ i < (M p.toNat).length) ∧ 0 ≤ col ∧ col < qN s p.toNat) then (1 : Int) else 0) = 0 by rw [if_neg cc]; decide), h37]
      rcases hst with ⟨x', s', M', k1, k2, k3, k4, k5, k6, _⟩ | ⟨_, k1, _⟩
      · have e : x' = x := by omega
        subst e
        obtain ⟨e1, e2⟩ := isMo_u iM k3
        subst e1
        exact absurd ⟨⟨k4, by rw [e2 _ (by omega)]; exact k5⟩, k6⟩ cc
      · exact .inr ⟨k1, rfl⟩
  · rw [if_pos (show (if (((lns hr).2.1.1 : Int) ≤ r ∧ r ≤ (((lns hr).2.1.1 + (lns hr).2.1.2.1 : Nat) : Int)) then (1 : Int) else 0) = 0 by rw [if_neg c]), h37]
    rcases hst with ⟨x', s', M', k1, k2, _⟩ | ⟨_, k1, _⟩
    · exact absurd (by omega) c
    · exact .inr ⟨k1, rfl⟩
/-- sheet() -/
theorem k_183 {a b w v t : Int} (h : cHs S G A (T, lns, hr, tx, kp, mt, pl, rf) n) (hb : (lns hr).2.1.1 + (lns hr).2.1.2.1 < 520) (hst : stSh T (lns hr) a b w t v) (hoX : okX (xOf T (lMo (lns hr)).2.2.1)) : (t = 0 ∧ c183 f 64 a b w (S, G, m) = some (.inr v, (S, G, m))) ∨ (t = 1 ∧ c183 f 64 a b w (S, G, m) = some (.inl 1, cq_ex (S, G, m))) := by
  obtain ⟨P, mp, b1, b2, b3, b4, b5, b6, b7, b8, b9, b10⟩ := hs_ln h hb
  obtain ⟨⟨a1, a2, a3, a4⟩, _⟩ := h
  obtain ⟨s, M, i1, i2⟩ := hst
  obtain ⟨s', M', rp, xr, cr, tp, ac, to, n1, n2, n3, _, ⟨n4, n5, n6⟩, _⟩ := b2
  obtain ⟨e1, e2⟩ := isMo_u n1 i1
  subst e1
  have eM : fSh (xOf T (lMo (lns hr)).2.2.1) s' M' = fSh (xOf T (lMo (lns hr)).2.2.1) s' M := fSh_v n1.2.2.1.1.2.1 (fun p hp => by rw [e2 p hp]) _
  have hC : okC (fSh (xOf T (lMo (lns hr)).2.2.1) s' M') := fSh_ok hoX (fun p hp => (n2 p hp).2.2.1) (fun p hp => Nat.le_trans (n2 p hp).2.1 (by decide))
  rw [← eM] at i2
  have h20 : c183_20 f (S, G, m) = some (.inl 1, cq_ex (S, G, m)) := rfl
  have bad : ¬ (0 ≤ a ∧ a < 6 ∧ 0 ≤ b ∧ b ≤ 11) → c183 f 64 a b w (S, G, m) = some (.inl 1, cq_ex (S, G, m)) → (t = 0 ∧ c183 f 64 a b w (S, G, m) = some (.inr v, (S, G, m))) ∨ (t = 1 ∧ c183 f 64 a b w (S, G, m) = some (.inl 1, cq_ex (S, G, m))) := fun hn he => by
    rcases i2 with ⟨z, _⟩ | ⟨_, z, _⟩
    · exact absurd z hn
    · exact .inr ⟨z, he⟩
  by_cases c1 : a < 0
  · exact bad (by omega) (by unfold c183; rw [if_pos c1, h20])
  by_cases c2 : 6 ≤ a
  · exact bad (by omega) (by unfold c183; rw [if_neg c1, if_pos c2, h20])
  by_cases c3 : b < 0
  · exact bad (by omega) (by unfold c183; rw [if_neg c1, if_neg c2, if_pos c3, h20])
  by_cases c4 : b < 12
  · rcases i2 with ⟨z, rfl, rfl⟩ | ⟨z, _⟩
    · left
      refine ⟨rfl, ?_⟩
      obtain ⟨x, hx⟩ : ∃ x : Nat, a + 6 * b = (x : Int) := ⟨(a + 6 * b).toNat, by omega⟩
      have hx72 : x < 72 := by omega
      have ex : xwr (a + xwr (6 * b)) = (x : Int) := by rw [xwr_g (6 * b) (by omega) (by omega), xwr_g _ (by omega) (by omega)]; exact hx
      have i3 : cq_is 1 14 (243 + 9 * hr) (S, G, m) = some () := if_pos b4.1
      have g6 : cq_gi 11 6 17 64 (S, G, m) = some (hr : Int) := by rw [o_gi (s64 a1), b9]
      rw [hx, Int.toNat_natCast]
      unfold c183
      rw [if_neg c1, if_neg c2, if_neg c3, if_pos c4, o_gr (y := 220) (s64 a1) (p64_5 a2), Option.bind_some, g6, Option.bind_some, o_ar (s220 a1) (by decide) b8 b6, Option.bind_some, i3, Option.bind_some, b7, Option.bind_some, o_gr n3.1 n4, Option.bind_some, ex, o_a n5 hx72, Option.bind_some, n6 x hx72]
      obtain ⟨C, eC'⟩ : ∃ C, C = fSh (xOf T (lMo (lns hr)).2.2.1) s' M' x := ⟨_, rfl⟩
      have hCx := hC x hx72
      rw [← eC'] at hCx ⊢
      have h125 : ∀ y, c183_125 f y (S, G, m) = some (.inr y, (S, G, m)) := fun y => rfl
      have h155 : ∀ y, c183_155 f y (S, G, m) = some (.inr y, (S, G, m)) := fun y => rfl
      have key : ∀ (y0 x5 v1 v2 : Int), (v1 = if x5 = 9000000000000000000 then 0 else if y0 = 0 then 1 else 2) → (v2 = if x5 = 9000000000000000000 then 0 else if y0 = 0 then x5 else xwl (x5 - -9000000000000000000)) → c183_70 f 64 w (x : Int) x5 y0 (S, G, m) = some (.inr (if w = 0 then v1 else if w = 1 then v2 else if w = 2 then (lns hr).2.2.1.2.1 x else -1), (S, G, m)) := fun y0 x5 v1 v2 e1 e2 => by
        unfold c183_70
        by_cases w1 : w < 0 ∨ 2 < w
        · rw [if_pos w1, if_neg (by omega), if_neg (by omega), if_neg (by omega)]
        · rw [if_neg w1]
          rcases (by omega : w = 0 ∨ w = 1 ∨ w = 2) with rfl | rfl | rfl
          · simp only [Int.reduceEq, reduceIte]
            rw [e1]
            by_cases d1 : x5 = 9000000000000000000
            · rw [if_neg (fun z => z d1), if_pos d1, h125]
            · rw [if_pos d1, if_neg d1]
              by_cases d2 : y0 = 0
              · rw [if_pos d2, if_pos d2, h125]
              · rw [if_neg d2, if_neg d2, h125]
          · simp only [Int.reduceEq, reduceIte]
            rw [e2]
            by_cases d1 : x5 = 9000000000000000000
            · rw [if_neg (fun z => z d1), if_pos d1, h155]
            · rw [if_pos d1, if_neg d1]
              by_cases d2 : y0 = 0
              · rw [if_pos d2, if_pos d2, h155]
              · rw [if_neg d2, if_neg d2, h155]
          · simp only [Int.reduceEq, reduceIte]
            rw [o_gr (y := 220) (s64 a1) (p64_5 a2), Option.bind_some, g6, Option.bind_some, o_ar (s220 a1) (by decide) b8 b6, Option.bind_some, o_gr b4.1 b5.2.2.1, Option.bind_some, o_a b4.2.2.2.1 hx72, Option.bind_some, b3.2.1.2 x hx72]
      unfold eC
      rcases hCx with ⟨q1, q2⟩ | ⟨q1, q2⟩ | ⟨q1, q2, q3⟩
      · rw [if_pos q1, if_pos (by decide)]
        exact key _ _ _ _ (by rw [if_pos rfl]; exact q1) (by rw [if_pos rfl]; exact q2)
      · have : -1000000000000 ≤ C.2 ∧ C.2 < 9000000000000000000 := by unfold vOk at q2; omega
        rw [if_neg (show ¬ C.1 = 0 by omega), if_pos q1, if_pos this.1]
        exact key _ _ _ _ (by rw [if_neg (by omega), if_pos rfl]; exact q1) (by rw [if_neg (by omega), if_pos rfl])
      · rw [if_neg (show ¬ C.1 = 0 by omega), if_neg (show ¬ C.1 = 1 by omega), if_neg (show ¬ (-1000000000000 : Int) ≤ -9000000000000000000 + C.2 by omega)]
        refine key _ _ _ _ (by rw [if_neg (by omega), if_neg (by decide)]; exact q1) ?_
        rw [if_neg (by omega), if_neg (by decide), xwl_g _ (by omega) (by omega)]
        omega
    · exact absurd ⟨by omega, by omega, by omega, by omega⟩ z
  · exact bad (by omega) (by unfold c183; rw [if_neg c1, if_neg c2, if_neg c3, if_neg c4, h20])
end
end
