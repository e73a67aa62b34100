section
/-! THE CLASS: branch() -/
section
variable {f A hr n sl ln tk : Nat} {S : Nat → Nat × Nat × Nat} {G G' : xG_} {m : Nat × Nat} {T : List (List Int)} {P : Nat → Nat} {l : sLn} {lns : Nat → sLn} {tx : List Int} {kp : Nat × List (List Int)} {mt : Int × List Int} {pl rf : Int} {H : Nat → sMo} {b k ed : Nat}
theorem cRo.cut2 {i : Nat} (h : cRo T S G A P ln H b k ed) (hi : i ≤ k) (hG : xSf A G G') (e1 : G' tk 1 = ((b + i : Nat) : Int)) (e2 : G' tk 2 = (b : Int)) (em : ∀ j, b ≤ j → j ≤ b + i → G' (tk + 1) j = G (ln + 1) j) : cRo T S G' A P tk H b i (ed - (hCat (hEg H) (b + i) (k - i)).length) := by
  obtain ⟨⟨h1, h2⟩, mp, h3, h4⟩ := h
  have gm : ∀ r, b ≤ r → r ≤ b + k → ∀ j, G' (mp r) j = G (mp r) j := fun r r1 r2 j => by
    obtain ⟨_, ⟨s, M, rp, xr, cr, tp, ac, to, _, _, _, _, _, _, ⟨z, _⟩, _⟩, _⟩ := h3 r r1 r2
    exact hG _ _ z.1 (.inr z.2)
  refine ⟨⟨e1, e2⟩, mp, fun r r1 r2 => ?_, fun r r1 r2 => ?_⟩
  · obtain ⟨a1, a2, x, a3, a4⟩ := h3 r r1 (by omega)
    refine ⟨by rw [em r r1 r2]; exact a1, a2.ge (Nat.le_refl _) (fun _ _ => rfl) hG, x, by rw [gm r r1 (by omega)]; exact a3, ?_⟩
    have e3 : b + k - r = (b + i - r) + (k - i) := by omega
    rw [e3, hCat_split, List.length_append] at a4
    have e4 : r + (b + i - r) = b + i := by omega
    rw [e4] at a4
    omega
  · have := h4 r r1 (by omega)
    rw [gm r (by omega) (by omega), gm r (by omega) (by omega), gm r (by omega) (by omega)]
    exact this
/-- become() -/
theorem k_13 {r : Nat} {mp : Nat → Nat} (hf : 600 < f) (ls : lnSt S ln) (lt : lnSt S tk) (hln : 242 < ln ∧ ln + 8 < 279) (htk : 242 < tk ∧ tk + 8 < 279) (hd : ln + 8 < tk ∨ tk + 8 < ln) (hr : r < 520) (hm : ∀ j, b ≤ j → j ≤ r → S (mp j) = (1, 2, 8)) :
    ∀ (d x fu : Nat) (Z : xG_), x + d = r + 1 → d < fu → b ≤ x → lnPt Z ln → lnPt Z tk → Z ln 2 = (b : Int) → (∀ j, b ≤ j → j ≤ r → Z (ln + 1) j = (mp j : Int)) → (∀ j, b ≤ j → j < x → Z (tk + 1) j = (mp j : Int)) →
    ∃ G', c13_5 f fu tk ln (r : Int) (x : Int) (S, Z, m) = some (S, G', m) ∧ (∀ a j, ¬ (a = tk ∧ (j = 1 ∨ j = 2 ∨ j = 7 ∨ j = 8)) → a ≠ tk + 1 → a ≠ tk + 2 → a ≠ tk + 3 → a ≠ tk + 7 → a ≠ tk + 8 → G' a j = Z a j) ∧ G' tk 1 = (r : Int) ∧ G' tk 2 = (b : Int) ∧ (∀ j, b ≤ j → j ≤ r → G' (tk + 1) j = (mp j : Int)) ∧ (∀ p, p < 16 → G' (tk + 2) p = 0) ∧ (∀ c, c < 72 → G' (tk + 3) c = 0) ∧ G' tk 7 = 0 ∧ G' tk 8 = 0 ∧ ∀ y, y < 72 → G' (tk + 7) y = 0 ∧ G' (tk + 8) y = 0 := by
  intro d
  induction d with
  | zero =>
    intro x fu Z e1 e2 hb lpl lpt h2 hl hz
    obtain ⟨fu, rfl⟩ : ∃ t, fu = t + 1 := ⟨fu - 1, by omega⟩
    have zz : ∀ a j, ¬ (a = tk ∧ (j = 1 ∨ j = 2)) → xup2 (xup2 Z tk 1 (r : Int)) tk 2 (b : Int) a j = Z a j := fun a j y => by rw [xup2_n (by omega), xup2_n (by omega)]
    have z1 : xup2 (xup2 Z tk 1 (r : Int)) tk 2 (b : Int) tk 1 = (r : Int) := by rw [xup2_n (by omega), xup2_s]
    have z2 : xup2 (xup2 Z tk 1 (r : Int)) tk 2 (b : Int) tk 2 = (b : Int) := xup2_s _ _ _ _
    have z0 : xup2 Z tk 1 (r : Int) ln 2 = (b : Int) := by rw [xup2_n (by omega)]; exact h2
    obtain ⟨G1, p1, p2, p3⟩ := k_382f (f := f) (m := m) (G := xup2 (xup2 Z tk 1 (r : Int)) tk 2 (b : Int)) (v := 0) (by omega) (by decide) lt.2.2.1
    obtain ⟨G2, q1, q2, q3⟩ := k_382f (f := f) (m := m) (G := G1) (v := 0) (by omega) (by decide) lt.2.2.2.1
    have hz2 : ∀ a j, ¬ (a = tk ∧ (j = 1 ∨ j = 2)) → a ≠ tk + 2 → a ≠ tk + 3 → G2 a j = Z a j := fun a j y1 y2 y3 => by rw [q3 a j y3, p3 a j y2, zz a j y1]
    have lp2 : lnPt G2 tk := by
      obtain ⟨h0, h1, h2, h3, h4, h5, h6, h7⟩ := lpt
      exact ⟨by rw [hz2 _ _ (by omega) (by omega) (by omega)]; exact h0, by rw [hz2 _ _ (by omega) (by omega) (by omega)]; exact h1, by rw [hz2 _ _ (by omega) (by omega) (by omega)]; exact h2, by rw [hz2 _ _ (by omega) (by omega) (by omega)]; exact h3, by rw [hz2 _ _ (by omega) (by omega) (by omega)]; exact h4, by rw [hz2 _ _ (by omega) (by omega) (by omega)]; exact h5, by rw [hz2 _ _ (by omega) (by omega) (by omega)]; exact h6, by rw [hz2 _ _ (by omega) (by omega) (by omega)]; exact h7⟩
    obtain ⟨G3, k1, k2, k3, k4, k5⟩ := k_7 (f := f) (m := m) (by omega) lt lp2
    have i1 : cq_is 1 14 tk (S, G2, m) = some () := if_pos lt.1
    refine ⟨G3, ?_, fun a j y1 y2 y3 y4 y5 y6 => by rw [k2 a j (by omega) y5 y6, hz2 a j (by omega) y3 y4], ?_, ?_, fun j y1 y2 => ?_, fun p hp => ?_, fun c hc => ?_, k3, k4, k5⟩
    · show c13_5b (c13_5 f fu) f _ _ _ _ _ = _
      unfold c13_5b
      rw [if_pos (by omega), o_p lt.1, Option.bind_some, o_gi ls.1, Option.bind_some, z0, o_p lt.1, Option.bind_some, o_gr lt.1 (show _ = ((tk + 2 : Nat) : Int) by rw [zz _ _ (by omega)]; exact lpt.2.1), Option.bind_some, p1, Option.bind_some, o_gr lt.1 (show _ = ((tk + 3 : Nat) : Int) by rw [p3 _ _ (by omega), zz _ _ (by omega)]; exact lpt.2.2.1), Option.bind_some, q1, Option.bind_some, i1, Option.bind_some, k1, Option.bind_some]
    · rw [k2 _ _ (by omega) (by omega) (by omega), q3 _ _ (by omega), p3 _ _ (by omega)]; exact z1
    · rw [k2 _ _ (by omega) (by omega) (by omega), q3 _ _ (by omega), p3 _ _ (by omega)]; exact z2
    · rw [k2 _ _ (by omega) (by omega) (by omega), hz2 _ _ (by omega) (by omega) (by omega)]; exact hz j y1 (by omega)
    · rw [k2 _ _ (by omega) (by omega) (by omega), q3 _ _ (by omega)]; exact p2 p hp
    · rw [k2 _ _ (by omega) (by omega) (by omega)]; exact q2 c hc
  | succ d ih =>
    intro x fu Z e1 e2 hb lpl lpt h2 hl hz
    obtain ⟨fu, rfl⟩ : ∃ t, fu = t + 1 := ⟨fu - 1, by omega⟩
    have zz : ∀ a j, ¬ (a = tk + 1 ∧ j = x) → xup2 Z (tk + 1) x (mp x : Int) a j = Z a j := fun a j y => xup2_n y
    have w : xwr ((x : Int) + 1) = ((x + 1 : Nat) : Int) := by rw [xwr_g _ (by omega) (by omega)]; omega
    obtain ⟨G', k1, k2, k3⟩ := ih (x + 1) fu (xup2 Z (tk + 1) x (mp x : Int)) (by omega) (by omega) (by omega) (lnPt_of' lpl (fun j => zz _ _ (by omega))) (lnPt_of' lpt (fun j => zz _ _ (by omega))) (by rw [zz _ _ (by omega)]; exact h2) (fun j y1 y2 => by rw [zz _ _ (by omega)]; exact hl j y1 y2) (fun j y1 y2 => by
      by_cases c : j = x
      · rw [c, xup2_s]
      · rw [zz _ _ (by omega)]; exact hz j y1 (by omega))
    refine ⟨G', ?_, fun a j y1 y2 y3 y4 y5 y6 => by rw [k2 a j y1 y2 y3 y4 y5 y6, zz a j (by omega)], k3⟩
    show c13_5b (c13_5 f fu) f _ _ _ _ _ = _
    unfold c13_5b
    rw [if_neg (by omega), o_gr lt.1 lpt.1, Option.bind_some, o_gr ls.1 lpl.1, Option.bind_some, o_ar ls.2.1 (by decide) (by omega) (hl x hb (by omega)), Option.bind_some, o_sr7 lt.2.1 (by omega) (hm x hb (by omega)), Option.bind_some, w]
    exact k1
/-- forks of lines behind branch() -/
theorem k_187l {x r : Nat} (hs : cSs S) (hr4 : hr < 4) (hx : x < 4) : ∀ (d i fu : Nat) (G : xG_), i + d = 4 → d < fu → cPs G → G 64 6 = (hr : Int) → ∃ G', c187_51 f fu 64 (x : Int) (r : Int) (i : Int) (S, G, m) = some ((r : Int), (S, G', m)) ∧ (G' (243 + 9 * x) 3 = (hr : Int) ∧ G' (243 + 9 * x) 4 = (r : Int)) ∧ (∀ y, i ≤ y → y < 4 → y ≠ x → G' (243 + 9 * y) 3 = if G (243 + 9 * y) 3 = (x : Int) then -1 else G (243 + 9 * y) 3) ∧ ∀ a j, ¬ (a = 243 + 9 * x ∧ (j = 3 ∨ j = 4)) → ¬ (j = 3 ∧ ∃ y, i ≤ y ∧ y < 4 ∧ a = 243 + 9 * y) → G' a j = G a j := by
  have lx := lnSt_of hs hx
  intro d
  induction d with
  | zero =>
    intro i fu G e1 e2 hp h6
    obtain ⟨fu, rfl⟩ : ∃ t, fu = t + 1 := ⟨fu - 1, by omega⟩
    have px := p_ln hp hx
    have hp1 : cPs (xup2 G (243 + 9 * x) 3 (hr : Int)) := hp.ge (fun a j hz => xup2_n (by
          rcases hz with z | z | z | z | z | z | z | ⟨z, z1, z2, k, z3⟩ | z | z | z | ⟨k, z1, z2, z3⟩ <;> omega))
    have g6 : cq_gi 11 6 17 64 (S, G, m) = some (hr : Int) := by rw [o_gi (s64 hs), h6]
    refine ⟨xup2 (xup2 G (243 + 9 * x) 3 (hr : Int)) (243 + 9 * x) 4 (r : Int), ?_, ⟨by rw [xup2_n (by omega), xup2_s], xup2_s _ _ _ _⟩, fun y y1 y2 => by omega, fun a j y1 y2 => by rw [xup2_n (by omega), xup2_n (by omega)]⟩
    show c187_51b (c187_51 f fu) f _ _ _ _ _ = _
    unfold c187_51b
    rw [if_pos (by omega), o_gr (y := 220) (s64 hs) (p64_5 hp), Option.bind_some, o_ar (s220 hs) (by decide) hx px, Option.bind_some, g6, Option.bind_some, o_p lx.1, Option.bind_some, o_gr (y := 220) (s64 hs) (p64_5 hp1), Option.bind_some, o_ar (s220 hs) (by decide) hx (p_ln hp1 hx), Option.bind_some, o_p lx.1, Option.bind_some]
  | succ d ih =>
    intro i fu G e1 e2 hp h6
    obtain ⟨fu, rfl⟩ : ∃ t, fu = t + 1 := ⟨fu - 1, by omega⟩
    have hi : i < 4 := by omega
    have ls := lnSt_of hs hi
    have pl := p_ln hp hi
    have w : xwr ((i : Int) + 1) = ((i + 1 : Nat) : Int) := by rw [xwr_g _ (by omega) (by omega)]; omega
    by_cases c1 : G (243 + 9 * i) 3 = (x : Int)
    · have z : ∀ a j, ¬ (a = 243 + 9 * i ∧ j = 3) → xup2 G (243 + 9 * i) 3 (-1) a j = G a j := fun a j y => xup2_n y
      obtain ⟨G', k1, k2, k3, k4⟩ := ih (i + 1) fu (xup2 G (243 + 9 * i) 3 (-1)) (by omega) (by omega) (hp.ge (fun a j hz => z a j (by
          rcases hz with z | z | z | z | z | z | z | ⟨z, z1, z2, k, z3⟩ | z | z | z | ⟨k, z1, z2, z3⟩ <;> omega))) (by rw [z _ _ (by omega)]; exact h6)
      refine ⟨G', ?_, k2, fun y y1 y2 y3 => ?_, fun a j y1 y2 => ?_⟩
      · show c187_51b (c187_51 f fu) f _ _ _ _ _ = _
        unfold c187_51b c187_82
        rw [if_neg (by omega), o_gr (y := 220) (s64 hs) (p64_5 hp), Option.bind_some, o_ar (s220 hs) (by decide) hi pl, Option.bind_some, o_gi ls.1, Option.bind_some, if_neg (fun z => z c1), Option.bind_some, o_ar (s220 hs) (by decide) hi pl, Option.bind_some, o_p ls.1, Option.bind_some, w]
        exact k1
      · by_cases c : y = i
        · subst c
          rw [if_pos c1, k4 _ _ (by omega) (fun z => by obtain ⟨_, x, z1, z2, z3⟩ := z; omega), xup2_s]
        · rw [k3 y (by omega) y2 y3, z _ _ (by omega)]
      · rw [k4 a j y1 (fun w => y2 ⟨w.1, by obtain ⟨y, z1, z2, z3⟩ := w.2; exact ⟨y, by omega, z2, z3⟩⟩), z a j (fun w => y2 ⟨w.2, i, Nat.le_refl _, hi, w.1⟩)]
    · obtain ⟨G', k1, k2, k3, k4⟩ := ih (i + 1) fu G (by omega) (by omega) hp h6
      refine ⟨G', ?_, k2, fun y y1 y2 y3 => ?_, fun a j y1 y2 => k4 a j y1 (fun z => y2 ⟨z.1, by obtain ⟨y, z1, z2, z3⟩ := z.2; exact ⟨y, by omega, z2, z3⟩⟩)⟩
      · show c187_51b (c187_51 f fu) f _ _ _ _ _ = _
        unfold c187_51b c187_82
        rw [if_neg (by omega), o_gr (y := 220) (s64 hs) (p64_5 hp), Option.bind_some, o_ar (s220 hs) (by decide) hi pl, Option.bind_some, o_gi ls.1, Option.bind_some, if_pos c1, w]
        exact k1
      · by_cases c : y = i
        · subst c
          rw [if_neg c1]
          exact k4 _ _ (by omega) (fun z => by obtain ⟨_, x, z1, z2, z3⟩ := z; omega)
        · exact k3 y (by omega) y2 y3
/-- branch() -/
theorem k_187 {k r v : Int} {lns' : Nat → sLn} (hf : 600 < f) (h : cHs S G A (T, lns, hr, tx, kp, mt, pl, rf) n) (hb : (lns hr).2.1.1 + (lns hr).2.1.2.1 < 520) (hF : ∀ y, y < 4 → (lns y).2.2.2.2.1 = -1 ∨ 0 ≤ (lns y).2.2.2.2.2) (hst : stBr lns hr k r v lns') : ∃ G', c187 f 64 k r (S, G, m) = some (v, (S, G', m)) ∧ cHs S G' A (T, lns', hr, tx, kp, mt, pl, rf) (n + 1) := by
  have hh := h
  obtain ⟨⟨a1, a2, a3, a4⟩, ⟨P, b1, b2, b3⟩, ⟨c1, c2⟩, ⟨c3, c4⟩, c5, c6, c7, c8, c9⟩ := h
  have ls := lnSt_of a1 c1
  have lp := lnPt_of a2 c1
  have pl' := p_ln a2 c1
  have L := b2 hr c1
  obtain ⟨Lr, _⟩ := id L
  obtain ⟨⟨l1, l2⟩, mp, l3, l4⟩ := id Lr
  have g6 : cq_gi 11 6 17 64 (S, G, m) = some (hr : Int) := by rw [o_gi (s64 a1), c2]
  have i3 : cq_is 1 14 (243 + 9 * hr) (S, G, m) = some () := if_pos ls.1
  have h35 : c187_35 f (S, G, m) = some (-1, (S, G, m)) := rfl
  have e0 : c187 f 64 k r (S, G, m) = (if k < 0 then c187_35 f (S, G, m) else (if (4) ≤ k then c187_35 f (S, G, m) else (if k = (hr : Int) then c187_35 f (S, G, m) else (if ¬ (if (((lns hr).2.1.1 : Int) ≤ r ∧ r ≤ (((lns hr).2.1.1 + (lns hr).2.1.2.1 : Nat) : Int)) then (1 : Int) else 0) = 0 then ((cq_ar 220 k (S, G, m)).bind fun v158 => ((cq_is 1 14 (v158) (S, G, m)).bind fun _ => ((c13 f (v158) (243 + 9 * hr) r (S, G, m)).bind fun R160 => c187_51 f f 64 k r (0) R160))) else c187_35 f (S, G, m))))) := by
    unfold c187
    rw [g6, o_gr (y := 220) (s64 a1) (p64_5 a2), Option.bind_some, Option.bind_some, o_ar (s220 a1) (by decide) c1 pl', Option.bind_some, Option.bind_some, i3, Option.bind_some, k_6 ls.1 l1 l2, Option.bind_some, o_gr (y := 220) (s64 a1) (p64_5 a2), Option.bind_some]
  rcases hst with ⟨k1, k2, k3, i, i1, rfl, rfl, rfl⟩ | ⟨i1, rfl, el⟩
  · obtain ⟨x, rfl⟩ : ∃ x : Nat, k = (x : Int) := ⟨k.toNat, by omega⟩
    have hx : x < 4 := by omega
    have hxn : x ≠ hr := by omega
    have lt := lnSt_of a1 hx
    have lpt := lnPt_of a2 hx
    have ix : cq_is 1 14 (243 + 9 * x) (S, G, m) = some () := if_pos lt.1
    obtain ⟨G1, u1, u2, u3, u4, u5, u6, u7, u8, u9, u10⟩ := k_13 (f := f) (m := m) (r := (lns hr).2.1.1 + i) (b := (lns hr).2.1.1) (mp := mp) hf ls lt (by omega) (by omega) (by omega) (by omega) (fun j y1 y2 => by
      obtain ⟨_, m2, _⟩ := l3 j y1 (by omega)
      obtain ⟨s1, M1, is1⟩ := m2.is
      obtain ⟨_, _, _, _, r1, _⟩ := m2.pm b1 is1
      exact r1.1) (i + 1) (lns hr).2.1.1 f G (by omega) (by omega) (Nat.le_refl _) lp lpt l2 (fun j y1 y2 => (l3 j y1 (by omega)).1) (fun j y1 y2 => by omega)
    have z1 : ∀ a j, ¬ (243 + 9 * x ≤ a ∧ a ≤ 243 + 9 * x + 8) → G1 a j = G a j := fun a j y => u2 a j (by omega) (by omega) (by omega) (by omega) (by omega) (by omega)
    have hp1 : cPs G1 := a2.ge (fun a j hz => u2 a j (by
        rcases hz with z | z | z | z | z | z | z | ⟨z, z1, z2, k, z3⟩ | z | z | z | ⟨k, z1, z2, z3⟩ <;> omega) (by
        rcases hz with z | z | z | z | z | z | z | ⟨z, z1, z2, k, z3⟩ | z | z | z | ⟨k, z1, z2, z3⟩ <;> omega) (by
        rcases hz with z | z | z | z | z | z | z | ⟨z, z1, z2, k, z3⟩ | z | z | z | ⟨k, z1, z2, z3⟩ <;> omega) (by
        rcases hz with z | z | z | z | z | z | z | ⟨z, z1, z2, k, z3⟩ | z | z | z | ⟨k, z1, z2, z3⟩ <;> omega) (by
        rcases hz with z | z | z | z | z | z | z | ⟨z, z1, z2, k, z3⟩ | z | z | z | ⟨k, z1, z2, z3⟩ <;> omega) (by
        rcases hz with z | z | z | z | z | z | z | ⟨z, z1, z2, k, z3⟩ | z | z | z | ⟨k, z1, z2, z3⟩ <;> omega))
    obtain ⟨G2, g1, ⟨g2, g2'⟩, g3, g4⟩ := k_187l (f := f) (m := m) (x := x) (r := (lns hr).2.1.1 + i) a1 c1 hx 4 0 f G1 (by omega) (by omega) hp1 (by rw [z1 _ _ (by omega)]; exact c2)
    have z2 : ∀ a j, ¬ ((j = 3 ∨ j = 4) ∧ 243 ≤ a ∧ a ≤ 278) → G2 a j = G1 a j := fun a j y2 => g4 a j (by omega) (fun z => by obtain ⟨zj, y, z1, z2, z3⟩ := z; omega)
    have z3 : ∀ a j, (∀ y, y < 4 → a ≠ 243 + 9 * y) → G2 a j = G1 a j := fun a j y2 => g4 a j (fun z => y2 x hx z.1) (fun z => by obtain ⟨zj, y, z1, z2, z3⟩ := z; exact y2 y z2 z3)
    have zz : ∀ a j, ¬ (243 ≤ a ∧ a ≤ 278) → G2 a j = G a j := fun a j y2 => by rw [z2 a j (by omega), z1 a j (by omega)]
    have sf : xSf A G G2 := fun a j y1 y2 => zz a j (by omega)
    refine ⟨G2, ?_, ⟨⟨a1, hp1.ge (fun a j hz => z2 a j (by
        rcases hz with z | z | z | z | z | z | z | ⟨z, z1, z2, k, z3⟩ | z | z | z | ⟨k, z1, z2, z3⟩ <;> omega)), a3.ge (fun a j y1 y2 => zz a j (by omega)), a4⟩, ⟨P, b1.ge (Nat.le_refl _) (fun _ _ => rfl) sf (by rw [zz _ _ (by omega)]; exact Int.le_refl _), fun y hy => ?_, ?_⟩, ⟨c1, by rw [zz _ _ (by omega)]; exact c2⟩, ⟨by rw [zz _ _ (by omega)]; exact c3, by rw [zz _ _ (by omega)]; omega⟩, by rw [zz _ _ (by omega)]; exact c5, by rw [zz _ _ (by omega)]; exact c6, c7.ge (zz _ _ (by omega)) (fun p => zz _ _ (by omega)), c8.ge (fun _ _ => rfl) (fun a j y1 y2 => zz a j (by omega)) ⟨zz _ _ (by omega), zz _ _ (by omega)⟩, c9.ge ⟨zz _ _ (by omega), zz _ _ (by omega)⟩ (fun j => zz _ _ (by omega))⟩⟩
    · have e13 : c13 f (243 + 9 * x) (243 + 9 * hr) (((lns hr).2.1.1 + i : Nat) : Int) (S, G, m) = some (S, G1, m) := by
        unfold c13
        rw [o_gi ls.1, Option.bind_some, l2]
        exact u1
      rw [e0, if_neg (by omega), if_neg (by omega), if_neg (by omega), if_pos (show ¬ (if (((lns hr).2.1.1 : Int) ≤ (((lns hr).2.1.1 + i : Nat) : Int) ∧ (((lns hr).2.1.1 + i : Nat) : Int) ≤ (((lns hr).2.1.1 + (lns hr).2.1.2.1 : Nat) : Int)) then (1 : Int) else 0) = 0 by rw [if_pos (by omega)]; decide), o_ar (s220 a1) (by decide) hx (p_ln a2 hx), Option.bind_some, ix, Option.bind_some, e13, Option.bind_some]
      exact g1
    · show cLn _ _ _ _ _ _ (if _ then _ else _)
      rw [Int.toNat_natCast]
      by_cases d : y = x
      · subst d
        rw [if_pos rfl]
        obtain ⟨_, m2, _⟩ := l3 _ (Nat.le_add_right _ i) (by omega)
        obtain ⟨s1, M1, is1⟩ := m2.is
        exact ⟨Lr.cut2 i1 sf (by rw [z2 _ _ (by omega)]; exact u3) (by rw [z2 _ _ (by omega)]; exact u4) (fun j (y1 : (lns hr).2.1.1 ≤ j) (y2 : j ≤ (lns hr).2.1.1 + i) => by rw [z3 _ _ (fun y hy => by omega), u5 j y1 y2]; exact (l3 j y1 (by omega)).1.symm), ⟨fun p hp => by rw [z3 _ _ (fun y hy => by omega)]; exact u6 p hp, fun c hc => by rw [z3 _ _ (fun y hy => by omega)]; exact u7 c hc⟩, .inl ⟨rfl, by rw [z2 _ _ (by omega)]; exact u8⟩, ⟨s1, is1.2.1, cPn.nil (by rw [z2 _ _ (by omega)]; exact u9)⟩, cCt.nil (fun c hc => by
          rw [z3 _ _ (fun y hy => by omega), z3 _ _ (fun y hy => by omega)]
          exact u10 c hc), g2, fun _ => g2'⟩
      · rw [if_neg d]
        obtain ⟨Yr, ⟨Yw, Yc⟩, Ye, ⟨s, Yp1, Yp2⟩, Yt, Y3, Y4⟩ := b2 y hy
        have zy : ∀ a j, 243 + 9 * y ≤ a → a ≤ 243 + 9 * y + 8 → ¬ (a = 243 + 9 * y ∧ j = 3) → G2 a j = G a j := fun a j y1 y2 y3 => by
          rw [g4 a j (by omega) (fun z => by obtain ⟨_, x, z1, z2, z3⟩ := z; omega), z1 a j (by omega)]
        have e3 := g3 y (Nat.zero_le _) hy d
        rw [z1 _ _ (by omega)] at e3
        refine ⟨Yr.ge (Nat.le_refl _) (fun _ _ => rfl) sf ⟨zy _ _ (by omega) (by omega) (by omega), zy _ _ (by omega) (by omega) (by omega), fun j _ _ => zy _ _ (by omega) (by omega) (by omega)⟩, ⟨fun p hp => by rw [zy _ _ (by omega) (by omega) (by omega)]; exact Yw p hp, fun c hc => by rw [zy _ _ (by omega) (by omega) (by omega)]; exact Yc c hc⟩, by rw [zy _ _ (by omega) (by omega) (by omega)]; exact Ye, ⟨s, Yp1, ?_⟩, Yt.ge (Nat.le_refl _) (fun _ _ => rfl) sf (fun c _ => ⟨zy _ _ (by omega) (by omega) (by omega), zy _ _ (by omega) (by omega) (by omega)⟩), ?_, fun hne => ?_⟩
        · obtain ⟨w1, w2, w3⟩ := Yp2
          refine ⟨by rw [zy _ _ (by omega) (by omega) (by omega)]; exact w1, w2, fun x hx => ?_⟩
          obtain ⟨v1, v2, v3⟩ := w3 x hx
          exact ⟨by rw [zy _ _ (by omega) (by omega) (by omega)]; exact v1, by rw [zy _ _ (by omega) (by omega) (by omega)]; exact v2, fun c hc => by rw [zy _ _ (by omega) (by omega) (by omega)]; exact v3 c hc⟩
        · show G2 (243 + 9 * y) 3 = (fkL (x : Int) (-1) (lns y).2.2.2.2).1
          rw [e3, Y3]
          unfold fkL
          by_cases q : (lns y).2.2.2.2.1 = (x : Int)
          · have : -1 < (lns y).2.2.2.2.2 := by
              rcases hF y hy with z | z
              · omega
              · omega
            rw [if_pos q, if_pos ⟨q, this⟩]
          · rw [if_neg q, if_neg (fun z => q z.1)]
        · rw [zy _ _ (by omega) (by omega) (by omega)]
          have hne' : ¬ (fkL (x : Int) (-1) (lns y).2.2.2.2).1 = -1 := hne
          show G (243 + 9 * y) 4 = (fkL (x : Int) (-1) (lns y).2.2.2.2).2
          unfold fkL at hne' ⊢
          by_cases q : (lns y).2.2.2.2.1 = (x : Int) ∧ -1 < (lns y).2.2.2.2.2
          · rw [if_pos q]; exact Y4 (by omega)
          · rw [if_neg q] at hne' ⊢; exact Y4 hne'
    · show cEe _ _ _ _ _ (if _ then _ else _)
      rw [Int.toNat_natCast, if_neg (fun z => hxn z.symm)]
      exact b3.ge (Nat.le_refl _) (fun _ _ => rfl) sf ⟨zz _ _ (by omega), zz _ _ (by omega)⟩
  · refine ⟨G, ?_, by rw [el]; exact hh.ge (Nat.le_succ n) (Nat.le_refl _) (fun _ _ => rfl) a2 (fun _ _ _ _ => rfl)⟩
    rw [e0, h35]
    by_cases q1 : k < 0
    · rw [if_pos q1]
    by_cases q2 : 4 ≤ k
    · rw [if_neg q1, if_pos q2]
    by_cases q3 : k = (hr : Int)
    · rw [if_neg q1, if_neg q2, if_pos q3]
    · rw [if_neg q1, if_neg q2, if_neg q3, if_neg (show ¬ ¬ (if (((lns hr).2.1.1 : Int) ≤ r ∧ r ≤ (((lns hr).2.1.1 + (lns hr).2.1.2.1 : Nat) : Int)) then (1 : Int) else 0) = 0 by rw [if_neg (fun z => i1 ⟨by omega, by omega, q3, z⟩)]; decide)]
end
end
section
/-! THE CLASS: program() and cell() in the house -/
theorem qPrg_u {t : List Int} {v a v' a' : Int} (h : qPrg t v a) (h' : qPrg t v' a') : v = v' ∧ a = a' := by
  unfold qPrg at h h'
  cases hq : qPr t with
  | inl w =>
    rw [hq] at h h'
    exact ⟨h.1.trans h'.1.symm, h.2.trans h'.2.symm⟩
  | inr s =>
    rw [hq] at h h'
    obtain ⟨z, z1, z2, z3⟩ := h
    obtain ⟨y, y1, y2, y3⟩ := h'
    have e1 := z2 y a' y1
    have e2 := y2 z a z1
    have e3 : z = y ∧ a = a' := by omega
    exact ⟨by rw [z3, y3, e3.1], e3.2⟩
theorem qPrg_n {t : List Int} {v a : Int} {s : pPg} (h : qPrg t v a) (hs : qPr t = .inr s) (hn : ∀ k a, ¬ pFa s 0 k a) : False := by
  unfold qPrg at h
  rw [hs] at h
  obtain ⟨z, z1, _⟩ := h
  exact hn _ _ z1
section
variable {f A A' hr n sl ln : Nat} {S S' : Nat → Nat × Nat × Nat} {G G' : xG_} {m : Nat × Nat} {T : List (List Int)} {P P' : Nat → Nat} {l : sLn} {lns : Nat → sLn} {tx t : List Int} {kp : Nat × List (List Int)} {mt : Int × List Int} {pl rf : Int}
theorem cLn.app (t : List Int) (h : cLn T S G A P ln l) (hE : cEd T S G A P) (hW : ceOk T l.2.2.2.1.2.2) (hP : ∀ e, e < T.length → P' e = P e) : cLn (T ++ [t]) S G A P' ln l := by
  obtain ⟨s0, M0, hm⟩ := h.mo
  obtain ⟨h1, h2, h4, ⟨s, h5, h6⟩, h7, h8⟩ := h
  have hT : 0 < T.length := Nat.lt_of_le_of_lt (Nat.zero_le _) hm.1
  have hl : lnE l < T.length := by
    unfold lnE
    rcases h4 with ⟨e, _⟩ | ⟨e1, e2, _⟩
    · rw [if_pos e]; exact hm.1
    · rw [if_neg (by omega)]; exact (hE.1 _ e2).1
  refine ⟨h1.app t hP, h2, ?_, ⟨s, by rw [getD_app _ hl]; exact h5, h6⟩, h7.app t (fun c hc => ?_), h8⟩
  · rcases h4 with z | ⟨e1, e2, e3⟩
    · exact .inl z
    · have e4 := hP _ (hE.1 _ e2).1
      exact .inr ⟨e1, by rw [e4]; exact e2, by rw [e4]; exact e3⟩
  · rcases hW c with z | z
    · rw [z]; exact hT
    · exact z.2.1
theorem cTx.nil (h : G 65 1 = 0) : cTx G (tBt []) ([] : List Int).length := ⟨h, Nat.zero_le _, fun p => ⟨fun hp => absurd hp (Nat.not_lt_zero p), fun _ => rfl⟩, fun p hp => absurd hp (Nat.not_lt_zero p)⟩
/-- program() -/
theorem k_pg {v pl' : Int} {T' : List (List Int)} {lns' : Nat → sLn} (hf : 3100 < f) (hn : n ≤ 100000) (h : cHs S G A (T, lns, hr, tx, kp, mt, pl, rf) n) (hW : ∀ y, y < 4 → ceOk T (lns y).2.2.2.1.2.2) (hst : stPg T lns hr tx v pl' T' lns') : ∃ S' G' m', c1000 f 64 (S, G, (A, sl)) = some (v, (S', G', m')) ∧ (A ≤ m'.1 ∧ m'.1 ≤ A + 325 ∧ m'.2 ≤ sl + 10342) ∧ (∀ a, a < A → S' a = S a) ∧ cHs S' G' m'.1 (T', lns', hr, [], kp, mt, pl', rf) (n + 1) := by
  obtain ⟨⟨a1, a2, a3, a4⟩, ⟨P, b1, b2, b3⟩, ⟨c1, c2⟩, ⟨c3, c4⟩, c5, c6, c7, c8, c9⟩ := h
  obtain ⟨v', S', G', m', k1, k2, k3, k4, k5, k6, k7, k8, k9⟩ := k_1000 (f := f) (A := A) (sl := sl) (sn := G 64 7) a1 a2 c7 (by omega) c2 c1 rfl ⟨c3, by omega⟩ hf
  have s1 : cSs S' := fun k hk => by rw [k2 _ (by omega)]; exact a1 k hk
  rcases k9 with ⟨d1, d2⟩ | ⟨s, d1, d2, d3, d4, d5, d6, d7, d8, d9⟩
  · rcases hst with ⟨e1, e2, e3⟩ | ⟨s, e1, e2, _⟩
    · obtain ⟨u1, u2⟩ := qPrg_u d1 e1
      rw [e2, e3, ← u1, ← u2]
      have g : ∀ a j, a < A → (a = 64 ∧ j ≠ 7 ∧ j ≠ 9 ∨ 82 < a) → G' a j = G a j := fun a j y1 y2 => d2 a j y1 (by omega) (by omega)
      have sf : xSf A G G' := fun a j y1 y2 => g a j y1 (by omega)
      refine ⟨S', G', m', k1, ⟨k3, k4, k5⟩, k2, ⟨s1, k6, a3.ge (fun a j y1 y2 => g a j (by omega) (by omega)), by omega⟩, ⟨P, b1.ge k3 k2 sf (by rw [k8]; omega), fun y hy => (b2 y hy).ge k3 k2 sf (fun a j y1 y2 => g a j (by omega) (by omega)), b3.ge k3 k2 sf ⟨g _ _ (by omega) (by omega), g _ _ (by omega) (by omega)⟩⟩, ⟨c1, by rw [g _ _ (by omega) (by omega)]; exact c2⟩, ⟨by omega, by omega⟩, by rw [g _ _ (by omega) (by omega)]; exact c5, rfl, cTx.nil k7, c8.ge (fun a y => k2 a (by omega)) (fun a j y1 y2 => g a j (by omega) (by omega)) ⟨g _ _ (by omega) (by omega), g _ _ (by omega) (by omega)⟩, c9.ge ⟨g _ _ (by omega) (by omega), g _ _ (by omega) (by omega)⟩ (fun j => g _ _ (by omega) (by omega))⟩
    · exact (qPrg_n d1 e1 e2).elim
  · rcases hst with ⟨e1, _⟩ | ⟨s', e1, e2, e3, e4, e5, e6⟩
    · exact (qPrg_n e1 d1 d2).elim
    · have es : s' = s := by
        rw [d1] at e1
        injection e1 with z
        exact z.symm
      subst es
      rw [e5, e6, e4, e3, ← d3]
      have hok : qOk s' := qOk_of c7.2.2.1 c7.2.1 d1 d2
      have g : ∀ a j, a < A → (a = 64 ∧ j ≠ 7 ∧ j ≠ 9 ∨ 82 < a) → ¬ (a = 243 + 9 * hr ∧ (j = 7 ∨ j = 8)) → G' a j = G a j := fun a j y1 y2 y3 => d5 a j y1 (by omega) (by omega) y3
      have sf : xSf A G G' := fun a j y1 y2 => g a j y1 (by omega) (by omega)
      have hP : ∀ e, e < T.length → (fun e => if e = T.length then A else P e) e = P e := fun e he => if_neg (by omega)
      have hPn : (fun e => if e = T.length then A else P e) T.length = A := if_pos rfl
      obtain ⟨P', eP⟩ : ∃ P', P' = (fun e => if e = T.length then A else P e) := ⟨_, rfl⟩
      rw [← eP] at hP hPn
      have pE : cEd T S' G' m'.1 P := b1.ge k3 k2 sf (by rw [k8]; omega)
      have gl : (T ++ [tx]).getD T.length [] = tx := by
        have := getD_apr (l := T) (d := []) [tx] 0
        rw [Nat.add_zero] at this
        exact this
      have gl2 : (T ++ [tx]).length = T.length + 1 := by rw [List.length_append]; rfl
      have ser : ∀ e, P e ≠ 0 → G' (P e) 0 ≤ G 64 7 := fun e he => by
        obtain ⟨_, ⟨_, nq, _, _, q3, q4, q5⟩, _, q7⟩ := b1.1 e he
        have := q3.2.2.2.2.2.2.2.2
        rw [sf _ _ (by omega) (by omega)]
        exact q7
      have pN : ∀ e, P' e ≠ 0 → e = T.length ∨ e < T.length ∧ P' e = P e := fun e he => by
        by_cases q : e = T.length
        · exact .inl q
        · have : P' e = P e := by rw [eP]; exact if_neg q
          rw [this] at he
          exact .inr ⟨(b1.1 e he).1, this⟩
      have qE : cEd (T ++ [tx]) S' G' m'.1 P' := by
        refine ⟨fun e he => ?_, fun e e' he he' hs => ?_⟩
        · rcases pN e he with q | ⟨q1, q2⟩
          · subst q
            rw [hPn, gl2]
            exact ⟨by omega, ⟨s', m'.1, by rw [gl]; exact d1, qOc_of c7.2.2.1 d1 hok, d8, Nat.le_refl _, .inr (by omega)⟩, by rw [d9]; omega, by rw [d9, k8]; exact Int.le_refl _⟩
          · rw [q2] at he ⊢
            obtain ⟨w1, w2, w3, w4⟩ := pE.1 e he
            exact ⟨by omega, w2.app tx q1, w3, w4⟩
        · rcases pN e he with q | ⟨q1, q2⟩
          · rcases pN e' he' with q' | ⟨q1', q2'⟩
            · rw [q, q']
            · rw [q2'] at he' hs
              rw [q, hPn, d9] at hs
              have := ser e' he'
              omega
          · rcases pN e' he' with q' | ⟨q1', q2'⟩
            · rw [q2] at he hs
              rw [q', hPn, d9] at hs
              have := ser e he
              omega
            · rw [q2, q2'] at hs
              exact pE.2 e e' (by rw [← q2]; exact he) (by rw [← q2']; exact he') hs
      refine ⟨S', G', m', k1, ⟨k3, k4, k5⟩, k2, ⟨s1, k6, a3.ge (fun a j y1 y2 => g a j (by omega) (by omega) (by omega)), by omega⟩, ⟨P', qE, fun y hy => ?_, ?_⟩, ⟨c1, by rw [g _ _ (by omega) (by omega) (by omega)]; exact c2⟩, ⟨by omega, by omega⟩, by rw [g _ _ (by omega) (by omega) (by omega)]; exact c5, d4, cTx.nil k7, c8.ge (fun a y => k2 a (by omega)) (fun a j y1 y2 => g a j (by omega) (by omega) (by omega)) ⟨g _ _ (by omega) (by omega) (by omega), g _ _ (by omega) (by omega) (by omega)⟩, c9.ge ⟨g _ _ (by omega) (by omega) (by omega), g _ _ (by omega) (by omega) (by omega)⟩ (fun j => g _ _ (by omega) (by omega) (by omega))⟩
      · unfold lUp
        by_cases d : y = hr
        · subst d
          rw [if_pos rfl]
          obtain ⟨Yr, ⟨Yw, Yc⟩, Ye, _, Yt, Y3, Y4⟩ := b2 y hy
          obtain ⟨s0, M0, hm⟩ := (b2 y hy).mo
          have hT : 0 < T.length := Nat.lt_of_le_of_lt (Nat.zero_le _) hm.1
          have zy : ∀ a j, 243 + 9 * y ≤ a → a ≤ 243 + 9 * y + 8 → ¬ (a = 243 + 9 * y ∧ (j = 7 ∨ j = 8)) → G' a j = G a j := fun a j y1 y2 y3 => g a j (by omega) (by omega) y3
          refine ⟨(Yr.ge k3 k2 sf ⟨zy _ _ (by omega) (by omega) (by omega), zy _ _ (by omega) (by omega) (by omega), fun j _ _ => zy _ _ (by omega) (by omega) (by omega)⟩).app tx hP, ⟨fun p hp => by rw [zy _ _ (by omega) (by omega) (by omega)]; exact Yw p hp, fun c hc => by rw [zy _ _ (by omega) (by omega) (by omega)]; exact Yc c hc⟩, .inr ⟨by show (0 : Int) ≤ (T.length : Int); omega, ?_, ?_⟩, ⟨s', ?_, cPn.nil d7⟩, (Yt.ge k3 k2 sf (fun c _ => ⟨zy _ _ (by omega) (by omega) (by omega), zy _ _ (by omega) (by omega) (by omega)⟩)).app tx (fun c hc => ?_), by rw [zy _ _ (by omega) (by omega) (by omega)]; exact Y3, fun hne => by rw [zy _ _ (by omega) (by omega) (by omega)]; exact Y4 hne⟩
          · show P' ((T.length : Int)).toNat ≠ 0
            rw [Int.toNat_natCast, hPn]
            omega
          · show G' (243 + 9 * y) 7 = ((P' ((T.length : Int)).toNat : Nat) : Int)
            rw [Int.toNat_natCast, hPn]
            exact d6
          · have : lnE (lnD (lns y) [] (T.length : Int) (lns y).2.2.2.1.2.2) = T.length := by
              show (if (T.length : Int) = -1 then _ else (T.length : Int).toNat) = _
              rw [if_neg (by omega), Int.toNat_natCast]
            rw [this, gl]
            exact d1
          · rcases hW y hy c with z | z
            · rw [z]; exact hT
            · exact z.2.1
        · rw [if_neg d]
          exact ((b2 y hy).ge k3 k2 sf (fun a j y1 y2 => g a j (by omega) (by omega) (by omega))).app tx pE (hW y hy) hP
      · unfold lUp
        rw [if_pos rfl]
        have := (b3.ge k3 k2 sf ⟨g _ _ (by omega) (by omega) (by omega), g _ _ (by omega) (by omega) (by omega)⟩).app tx hP
        exact this
end
end
