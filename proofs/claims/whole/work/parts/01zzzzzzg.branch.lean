/-! branch() -/
/-- a line that branches off ln at round b + i -/
def lnC (ln : sLn) (i : Nat) (fk : Int × Int) : sLn := (ln.1, (ln.2.1.1, i, ln.2.1.2.2 - (hCat (hEg ln.1) (ln.2.1.1 + i) (ln.2.1.2.1 - i)).length), (fun _ => 0, fun _ => 0, false), ([], -1, fun _ => -1), fk)
section
variable {f m n hr : Nat} {T : List (List Int)} {lns : Nat → sLn}
theorem l_315_92 {x : Nat} {r : Int} {p : Nat} (hp : 122 < p) (hr72 : 100 < f) : ∀ (d c fu : Nat) (Z : xG_), c + d = 72 → d < fu → (∀ j, j < c → Z (p + 16) j = 0) → ∃ Z' fu', g315_92 f fu (x : Int) r p (c : Int) Z = g315_92 f (fu' + 1) (x : Int) r p 72 Z' ∧ (∀ j, j < 72 → Z' (p + 16) j = 0) ∧ ∀ a j, a ≠ p + 16 → Z' a j = Z a j := by
  intro d
  induction d with
  | zero =>
    intro c fu Z h1 h2 h3
    obtain ⟨fu, rfl⟩ : ∃ t, fu = t + 1 := ⟨fu - 1, by omega⟩
    have hc : c = 72 := by omega
    subst hc
    exact ⟨Z, fu, rfl, h3, fun _ _ _ => rfl⟩
  | succ d ih =>
    intro c fu Z h1 h2 h3
    obtain ⟨fu, rfl⟩ : ∃ t, fu = t + 1 := ⟨fu - 1, by omega⟩
    have e : xwr ((c : Int) + 1) = ((c + 1 : Nat) : Int) := by rw [xwr_g _ (by omega) (by omega)]; omega
    obtain ⟨Z', fu', q1, q2, q3⟩ := ih (c + 1) fu (xup2 Z (p + 16) c 0) (by omega) (by omega) (fun j hj => by
      by_cases d : j = c
      · rw [d, xup2_s]
      · rw [xup2_n (by omega)]; exact h3 j (by omega))
    refine ⟨Z', fu', ?_, q2, fun a j q => by rw [q3 a j q, xup2_n (by omega)]⟩
    rw [← q1]
    show g315_92b (g315_92 f fu) f _ _ _ _ _ = _
    unfold g315_92b
    rw [if_neg (by omega), if_pos (by omega), Int.toNat_natCast, Option.bind_some, e]
theorem l_315_67 {x : Nat} {r : Int} {p : Nat} (hp : 122 < p) (hr72 : 100 < f) : ∀ (d c fu : Nat) (Z : xG_), c + d = 16 → d < fu → (∀ j, j < c → Z (p + 18) j = 0) → ∃ Z', g315_67 f fu (x : Int) r p (c : Int) Z = g315_92 f f (x : Int) r p 0 Z' ∧ (∀ j, j < 16 → Z' (p + 18) j = 0) ∧ ∀ a j, a ≠ p + 18 → Z' a j = Z a j := by
  intro d
  induction d with
  | zero =>
    intro c fu Z h1 h2 h3
    obtain ⟨fu, rfl⟩ : ∃ t, fu = t + 1 := ⟨fu - 1, by omega⟩
    refine ⟨Z, ?_, fun j hj => h3 j (by omega), fun _ _ _ => rfl⟩
    show g315_67b (g315_67 f fu) f _ _ _ _ _ = _
    unfold g315_67b
    rw [if_pos (by omega)]
  | succ d ih =>
    intro c fu Z h1 h2 h3
    obtain ⟨fu, rfl⟩ : ∃ t, fu = t + 1 := ⟨fu - 1, by omega⟩
    have e : xwr ((c : Int) + 1) = ((c + 1 : Nat) : Int) := by rw [xwr_g _ (by omega) (by omega)]; omega
    obtain ⟨Z', q1, q2, q3⟩ := ih (c + 1) fu (xup2 Z (p + 18) c 0) (by omega) (by omega) (fun j hj => by
      by_cases d : j = c
      · rw [d, xup2_s]
      · rw [xup2_n (by omega)]; exact h3 j (by omega))
    refine ⟨Z', ?_, q2, fun a j q => by rw [q3 a j q, xup2_n (by omega)]⟩
    show g315_67b (g315_67 f fu) f _ _ _ _ _ = _
    unfold g315_67b
    rw [if_neg (by omega), if_pos (by omega), Int.toNat_natCast, Option.bind_some, e]
    exact q1
/-- branch() -/
def stBr (lns : Nat → sLn) (hr : Nat) (x r v : Int) (lns' : Nat → sLn) : Prop :=
  (0 ≤ x ∧ x < 4 ∧ x ≠ (hr : Int) ∧ ∃ i : Nat, i ≤ (lns hr).2.1.2.1 ∧ r = (((lns hr).2.1.1 + i : Nat) : Int) ∧ v = r ∧ lns' = fun k => if k = x.toNat then lnC (lns hr) i ((hr : Int), r) else lnK (lns k) (fkL x (-1) (lns k).2.2.2.2)) ∨
  (¬ (0 ≤ x ∧ x < 4 ∧ x ≠ (hr : Int) ∧ ((lns hr).2.1.1 : Int) ≤ r ∧ r ≤ (((lns hr).2.1.1 + (lns hr).2.1.2.1 : Nat) : Int)) ∧ v = -1 ∧ lns' = lns)
theorem sOk.br {ln : sLn} {i : Nat} {fk : Int × Int} (h : sOk T ln n) (hi : i ≤ ln.2.1.2.1) : sOk T (lnC ln i fk) n := by
  obtain ⟨a1, a2, a3, a4, a5, a6, a7, a8, a9, a10⟩ := h.bk hi
  exact ⟨a1, a2, a3, a4, a5, fun p hp => ⟨Int.le_refl 0, Int.natCast_nonneg n⟩, fun p hp => ⟨Int.le_refl 0, Int.natCast_nonneg n⟩, a8, a9, a10⟩
theorem l_315 {G : xG_} {k r : Int} (hf : 1000100 < f) (hn : n < 900) (h : rHb G T m lns hr n) :
    ∃ v G' lns', g315 f k r G = some (v, G') ∧ stBr lns hr k r v lns' ∧ rHb G' T m lns' hr (n + 1) ∧ G' 0 74 = 0 ∧ G' 0 63 = G 0 63 ∧ xfHo G G' := by
  have h0 := h.u74 (v := 0)
  obtain ⟨a1, a2, a3, a4, a5, a6, a7, a8, a9⟩ := h
  obtain ⟨s0, M0, b1, b2, b3⟩ := a5 hr a4
  let o := 123 + 29 * hr
  have hoo : o = 123 + 29 * hr := rfl
  let G1 := xup2 G 0 74 0
  have z1 : ∀ a j, ¬ (a = 0 ∧ j = 74) → G1 a j = G a j := fun a j q => xup2_n (by omega)
  have hpast := l_310 (f := f) (o := o) (G := G1) (b := (lns hr).2.1.1) (k := (lns hr).2.1.2.1) (r := r) (by rw [z1 _ _ (by omega)]; exact b2.2.1.2.2.1) (by rw [z1 _ _ (by omega)]; exact b2.2.1.2.1)
  have e0 : g315 f k r G = (if k < 0 then g315_41 f G1 else (if 4 ≤ k then g315_41 f G1 else (if k = (hr : Int) then g315_41 f G1 else ((g310 f o r G1).bind fun R156 => (if ¬ (R156.1) = 0 then (if 0 ≤ k ∧ k < 4 then ((g316 f o (123 + 29 * k.toNat) R156.2).bind fun R163 => ((g312 f (123 + 29 * k.toNat) r R163).bind fun R168 => g315_67 f f k r (123 + 29 * k.toNat) 0 R168)) else none) else g315_41 f R156.2))))) := by
    unfold g315
    rw [Option.bind_some, xup2_n (by omega), a3, if_pos (by omega), Int.toNat_natCast]
  have no : (¬ (0 ≤ k ∧ k < 4 ∧ k ≠ (hr : Int) ∧ ((lns hr).2.1.1 : Int) ≤ r ∧ r ≤ (((lns hr).2.1.1 + (lns hr).2.1.2.1 : Nat) : Int))) → g315 f k r G = some (-1, G1) → ∃ v G' lns', g315 f k r G = some (v, G') ∧ stBr lns hr k r v lns' ∧ rHb G' T m lns' hr (n + 1) ∧ G' 0 74 = 0 ∧ G' 0 63 = G 0 63 ∧ xfHo G G' := fun c e => ⟨-1, G1, lns, e, .inr ⟨c, rfl, rfl⟩, h0.mo (Nat.le_succ n), xup2_s _ _ _ _, z1 _ _ (by omega), fun a j q1 q2 q3 q4 q5 => z1 _ _ (by omega)⟩
  by_cases c1 : k < 0
  · exact no (by omega) (by rw [e0, if_pos c1]; rfl)
  by_cases c2 : 4 ≤ k
  · exact no (by omega) (by rw [e0, if_neg c1, if_pos c2]; rfl)
  by_cases c3 : k = (hr : Int)
  · exact no (fun q => q.2.2.1 c3) (by rw [e0, if_neg c1, if_neg c2, if_pos c3]; rfl)
  rw [if_neg c1, if_neg c2, if_neg c3, hpast, Option.bind_some] at e0
  by_cases c : ((lns hr).2.1.1 : Int) ≤ r ∧ r ≤ (((lns hr).2.1.1 + (lns hr).2.1.2.1 : Nat) : Int)
  · obtain ⟨i, hi⟩ : ∃ i : Nat, r = (((lns hr).2.1.1 + i : Nat) : Int) := ⟨(r - (lns hr).2.1.1).toNat, by omega⟩
    obtain ⟨x, rfl⟩ : ∃ x : Nat, k = (x : Int) := ⟨k.toNat, by omega⟩
    have hx : x < 4 := by omega
    have hxr : x ≠ hr := fun q => c3 (by rw [q])
    have hik : i ≤ (lns hr).2.1.2.1 := by omega
    have n1 : ¬ ((if ((lns hr).2.1.1 : Int) ≤ r ∧ r ≤ (((lns hr).2.1.1 + (lns hr).2.1.2.1 : Nat) : Int) then (1 : Int) else 0, G1) : Int × xG_).1 = 0 := by
      rw [if_pos c]; show ¬ (1 : Int) = 0; decide
    rw [if_pos n1, if_pos (by omega : 0 ≤ (x : Int) ∧ (x : Int) < 4), Int.toNat_natCast] at e0
    simp only [] at e0
    let p := 123 + 29 * x
    have hpp : p = 123 + 29 * x := rfl
    obtain ⟨sx, Mx, x1, x2, x3⟩ := a5 x hx
    -- copyLine
    obtain ⟨G2, u1, u2, u3, u4, u5, u6⟩ := l_316 (f := f) (o := o) (p := p) (G := G1) (h := hr) (h' := x) (by omega) a4 rfl hx rfl (fun q => hxr q.symm) (b2.1.ge' (fun a j _ _ => z1 _ _ (by omega))) (b2.2.2.1.ge (z1 _ _ (by omega)) (fun a j _ _ => z1 _ _ (by omega)))
    have z2 : ∀ a j, ¬ (a = 0 ∧ j = 74) → ¬ (a = p ∧ (1 ≤ j ∧ j ≤ 4 ∨ j = 10 ∨ j = 16 ∨ j = 17)) → ¬ (p + 1 ≤ a ∧ a ≤ p + 15) → G2 a j = G a j := fun a j q1 q2 q3 => by rw [u6 a j q2 q3, z1 a j q1]
    -- become
    let ln0 : sLn := ((lns hr).1, (lns hr).2.1, ((lns x).2.2.1.1, (lns x).2.2.1.2.1, false), (lns hr).2.2.2.1, (lns x).2.2.2.2)
    have hS0 : sOk T ln0 n := ⟨b3.1, b3.2.1, b3.2.2.1, b3.2.2.2.1, b3.2.2.2.2.1, x3.2.2.2.2.2.1, x3.2.2.2.2.2.2.1, b3.2.2.2.2.2.2.2⟩
    obtain ⟨G3, v1, v2, v3⟩ := l_bc (f := f) (o := p) (h := x) (G := G2) (ln := ln0) (T := T) (n := n) (i := i) (by omega) (by omega) hx rfl u2 ⟨by rw [u4 1 (by omega), z1 _ _ (by omega)]; exact b2.2.1.1, by rw [u4 3 (by omega), z1 _ _ (by omega)]; exact b2.2.1.2.2.1, by rw [u4 4 (by omega), z1 _ _ (by omega)]; exact b2.2.1.2.2.2⟩ u3 (fun c hc => by rw [u5 c hc, z1 _ _ (by omega)]; exact b2.2.2.2.1 c hc) hS0 hik
    have v4 := v3 (fun q hq => by rw [z2 _ _ (by omega) (by omega) (by omega)]; exact x2.2.2.2.2.2.1 q hq) (fun c hc => by rw [z2 _ _ (by omega) (by omega) (by omega)]; exact x2.2.2.2.2.2.2.1 c hc) (by rw [z2 _ _ (by omega) (by omega) (by omega)]; exact x2.2.2.2.2.2.2.2.2.2.2.1) (by rw [z2 _ _ (by omega) (by omega) (by omega)]; exact x2.2.2.2.2.2.2.2.2.2.2.2)
    have z3 : ∀ a j, ¬ (a = 0 ∧ j = 74) → ¬ (253 ≤ a ∧ a ≤ 256) → ¬ (p ≤ a ∧ a ≤ p + 28) → G3 a j = G a j := fun a j q1 q2 q3 => by rw [v2 a j q2 (by omega) (by omega) (by omega) (by omega) (by omega) (by omega), z2 a j q1 (by omega) (by omega)]
    -- worked, cellWorked
    obtain ⟨G4, w1, w2, w3⟩ := l_315_67 (f := f) (x := x) (r := r) (p := p) (by omega) (by omega) 16 0 f G3 rfl (by omega) (fun j hj => absurd hj (Nat.not_lt_zero j))
    obtain ⟨G5, fu', w4, w5, w6⟩ := l_315_92 (f := f) (x := x) (r := r) (p := p) (by omega) (by omega) 72 0 f G4 rfl (by omega) (fun j hj => absurd hj (Nat.not_lt_zero j))
    have z5 : ∀ a j, a ≠ p + 16 → a ≠ p + 18 → G5 a j = G3 a j := fun a j q1 q2 => by rw [w6 a j q1, w3 a j q2]
    -- loseForks
    obtain ⟨G6, t1, t2, t3⟩ := l_313 (f := f) (k := (x : Int)) (r := -1) (by omega) 4 0 f G5 rfl (by omega)
    have t1' : g313 f (x : Int) (-1) G5 = some G6 := t1
    have z6 : ∀ a j, j ≠ 35 → G6 a j = G5 a j := fun a j q => t3 a j (fun y => q y.1)
    have e62 : G6 0 62 = (hr : Int) := by rw [z6 _ _ (by omega), z5 _ _ (by omega) (by omega), z3 _ _ (by omega) (by omega) (by omega)]; exact a3
    have e64 : G6 0 64 = G 0 64 := by rw [z6 _ _ (by omega), z5 _ _ (by omega) (by omega), z3 _ _ (by omega) (by omega) (by omega)]
    have w64 : xwr (G 0 64 + 1) = G 0 64 + 1 := xwr_g _ (by omega) (by omega)
    let G7 := xup2 (xup2 (xup2 (xup2 G6 p 35 (hr : Int)) p 36 r) 0 64 (G 0 64 + 1)) 0 62 (x : Int)
    have z7 : ∀ a j, ¬ (a = p ∧ (j = 35 ∨ j = 36)) → ¬ (a = 0 ∧ (j = 64 ∨ j = 62)) → G7 a j = G6 a j := fun a j q1 q2 => by
      show xup2 _ _ _ _ _ _ = _
      rw [xup2_n (by omega), xup2_n (by omega), xup2_n (by omega), xup2_n (by omega)]
    have s62 : G7 0 62 = (x : Int) := xup2_s _ _ _ _
    have s64 : G7 0 64 = G 0 64 + 1 := by
      show xup2 _ _ _ _ _ _ = _
      rw [xup2_n (by omega), xup2_s]
    have s36 : G7 p 36 = r := by
      show xup2 _ _ _ _ _ _ = _
      rw [xup2_n (by omega), xup2_n (by omega), xup2_s]
    have s35 : G7 p 35 = (hr : Int) := by
      show xup2 _ _ _ _ _ _ = _
      rw [xup2_n (by omega), xup2_n (by omega), xup2_n (by omega), xup2_s]
    have zp : ∀ a j, p ≤ a → a ≤ p + 28 → ¬ (a = p ∧ (j = 35 ∨ j = 36)) → a ≠ p + 16 → a ≠ p + 18 → G7 a j = G3 a j := fun a j q1 q2 q3 q4 q5 => by
      rw [z7 _ _ q3 (by omega), t3 _ _ (fun ⟨y1, y, y2, y3, y4⟩ => q3 ⟨by omega, .inl y1⟩), z5 _ _ q4 q5]
    have zg : ∀ a j, ¬ (a = 0 ∧ (j = 74 ∨ j = 64 ∨ j = 62)) → ¬ (253 ≤ a ∧ a ≤ 256) → ¬ (p ≤ a ∧ a ≤ p + 28) → ¬ (j = 35 ∧ ∃ y, y < 4 ∧ a = 123 + 29 * y) → G7 a j = G a j := fun a j q1 q2 q3 q4 => by
      rw [z7 _ _ (by omega) (by omega), t3 _ _ (fun ⟨y1, y, y2, y3, y4⟩ => q4 ⟨y1, y, y3, y4⟩), z5 _ _ (by omega) (by omega), z3 _ _ (by omega) q2 q3]
    let lns' : Nat → sLn := fun k => if k = x then lnC (lns hr) i ((hr : Int), r) else lnK (lns k) (fkL (x : Int) (-1) (lns k).2.2.2.2)
    have el : lns' x = lnC (lns hr) i ((hr : Int), r) := if_pos rfl
    obtain ⟨s, M, hsM⟩ := b3.1 ((lns hr).2.1.1 + i) (by omega) (by omega)
    have hxl : rLx G7 p (lnC (lns hr) i ((hr : Int), r)) := by
      obtain ⟨y1, ⟨y2, y3, y4, y5⟩, y6, y7, y8, y9, y10, y11, ⟨y12, y13, y14⟩, y15, y16⟩ := v4
      refine ⟨⟨y1.1.ge (zp _ _ (by omega) (by omega) (by omega) (by omega) (by omega)) (fun a j _ _ => zp _ _ (by omega) (by omega) (by omega) (by omega) (by omega)), y1.2.1.ge (zp _ _ (by omega) (by omega) (by omega) (by omega) (by omega)) (fun a j _ _ => zp _ _ (by omega) (by omega) (by omega) (by omega) (by omega)), y1.2.2.1.ge (zp _ _ (by omega) (by omega) (by omega) (by omega) (by omega)) (fun a j _ _ => zp _ _ (by omega) (by omega) (by omega) (by omega) (by omega)), y1.2.2.2⟩, ⟨by rw [zp _ _ (by omega) (by omega) (by omega) (by omega) (by omega)]; exact y2, by rw [zp _ _ (by omega) (by omega) (by omega) (by omega) (by omega)]; exact y3, by rw [zp _ _ (by omega) (by omega) (by omega) (by omega) (by omega)]; exact y4, by rw [zp _ _ (by omega) (by omega) (by omega) (by omega) (by omega)]; exact y5⟩, y6.ge (zp _ _ (by omega) (by omega) (by omega) (by omega) (by omega)) (fun a j _ _ => zp _ _ (by omega) (by omega) (by omega) (by omega) (by omega)), fun c hc => by rw [zp _ _ (by omega) (by omega) (by omega) (by omega) (by omega)]; exact y7 c hc, fun q hq => ?_, fun c hc => ?_, ⟨by rw [zp _ _ (by omega) (by omega) (by omega) (by omega) (by omega)]; exact y10.1, fun p hp => by rw [zp _ _ (by omega) (by omega) (by omega) (by omega) (by omega)]; exact y10.2 p hp⟩, rfl, ⟨y12.ge (zp _ _ (by omega) (by omega) (by omega) (by omega) (by omega)) (fun a j _ _ => zp _ _ (by omega) (by omega) (by omega) (by omega) (by omega)), by rw [zp _ _ (by omega) (by omega) (by omega) (by omega) (by omega)]; exact y13, fun c hc => by rw [zp _ _ (by omega) (by omega) (by omega) (by omega) (by omega)]; exact y14 c hc⟩, s35, s36⟩
      · show G7 (p + 18) q = 0
        rw [z7 _ _ (by omega) (by omega), t3 _ _ (fun ⟨y1, y, y2, y3, y4⟩ => by omega), w6 _ _ (by omega)]
        exact w2 q hq
      · show G7 (p + 16) c = 0
        rw [z7 _ _ (by omega) (by omega), t3 _ _ (fun ⟨y1, y, y2, y3, y4⟩ => by omega)]
        exact w5 c hc
    obtain ⟨G8, G9, k1, k2, k3, k4⟩ := l_lv (f := f) (hr := x) (G := G7) (lns := lns') (T := T) (m := m) (n := n + 1) (s := s) (M := M) hf hx (a1.ge (fun j _ _ => zg _ _ (by omega) (by omega) (by omega) (by omega))) (a2.ge (zg _ _ (by omega) (by omega) (by omega) (by omega)) (zg _ _ (by omega) (by omega) (by omega) (by omega)) (fun a j q => zg _ _ (by omega) (by omega) (by omega) (fun ⟨y1, y, y2, y3⟩ => by omega))) s62 (by rw [el]; exact hxl) (fun c hc => by
      have := x2.ck a1 a2 x1 c hc
      unfold cOf at this ⊢
      have y : ∀ a, a = p + 17 ∨ a = p + 20 → G7 a c = G a c := fun a q => by
        rw [zp _ _ (by omega) (by omega) (by omega) (by omega) (by omega), v2 _ _ (by omega) (by omega) (by omega) (by omega) (by omega) (by omega) (by omega), z2 _ _ (by omega) (by omega) (by omega)]
      rw [show 123 + 29 * x = p from rfl, y _ (.inl rfl), y _ (.inr rfl)]
      exact this) (by rw [el]; exact hsM) (by rw [el]; exact (b3.br hik).mo (Nat.le_succ n)) (fun k hk hne => by
      obtain ⟨s', M', j1, j2, j3⟩ := a5 k hk
      have ek : lns' k = lnK (lns k) (fkL (x : Int) (-1) (lns k).2.2.2.2) := if_neg hne
      rw [ek]
      refine ⟨s', M', j1, ?_, j3.mo (Nat.le_succ n)⟩
      refine rLn.fk j2 (fun a j q1 q2 q3 => zg _ _ (by omega) (by omega) (by omega) (fun ⟨y1, y, y2, y3⟩ => q3 ⟨by omega, y1⟩)) ?_ (fkL_2 _ _ _)
      have hk2 : ∀ j, G5 (123 + 29 * k) j = G (123 + 29 * k) j := fun j => by rw [z5 _ _ (by omega) (by omega), z3 _ _ (by omega) (by omega) (by omega)]
      rw [z7 _ _ (by omega) (by omega), t2 k (Nat.zero_le k) hk, hk2, hk2, j2.2.2.2.2.2.2.2.2.2.2.1, j2.2.2.2.2.2.2.2.2.2.2.2]) (by rw [zg _ _ (by omega) (by omega) (by omega) (by omega)]; omega) (by rw [s64]; omega) (by rw [s64, zg _ _ (by omega) (by omega) (by omega) (by omega)]; omega)
    let G10 := xup2 G9 0 62 (hr : Int)
    have z10 : ∀ a j, ¬ (a = 0 ∧ j = 62) → G10 a j = G9 a j := fun a j q => xup2_n (by omega)
    refine ⟨r, G10, lns', ?_, .inl ⟨by omega, by omega, c3, i, hik, hi, rfl, ?_⟩, ?_, ?_, ?_, fun a j q1 q2 q3 q4 q5 => ?_⟩
    · rw [e0]
      show Option.bind (g316 f o p G1) _ = _
      rw [u1, Option.bind_some]
      show Option.bind (g312 f p r G2) _ = _
      rw [hi]
      show Option.bind (g312 f p (((lns hr).2.1.1 + i : Nat) : Int) G2) _ = _
      have v1' : g312 f p (((lns hr).2.1.1 + i : Nat) : Int) G2 = some G3 := v1
      rw [v1', Option.bind_some, ← hi]
      show g315_67 f f (x : Int) r p ((0 : Nat) : Int) G3 = _
      rw [w1]
      show g315_92 f f (x : Int) r p ((0 : Nat) : Int) G4 = _
      rw [w4]
      show g315_92b (g315_92 f fu') f (x : Int) r p 72 G5 = _
      unfold g315_92b
      rw [if_pos (by decide), t1', Option.bind_some, e62, Option.bind_some, Option.bind_some, xup2_n (by omega), xup2_n (by omega), e64, w64, Option.bind_some, Option.bind_some]
      show Option.bind (g296 f G7) _ = _
      rw [k1, Option.bind_some]
      show Option.bind (g346 f (123 + 29 * x) G8) _ = _
      rw [k2, Option.bind_some, xup2_n (by omega), xup2_n (by omega), xup2_n (by omega), e62, Option.bind_some]
    · rfl
    · have hc := k3.c
      obtain ⟨j1, j2, j3, j4, j5, j6, j7, j8, j9⟩ := k3
      exact rHb.of (hc.ge (fun j _ => z10 _ _ (by omega)) (fun a j _ _ _ => z10 _ _ (by omega))) (xup2_s _ _ _ _) a4 (by rw [z10 _ _ (by omega)]; exact j6) (by rw [z10 _ _ (by omega)]; exact j7) (by rw [z10 _ _ (by omega), z10 _ _ (by omega)]; exact j8) (j9.ge (fun j _ _ => z10 _ _ (by omega)) (fun a j _ _ => z10 _ _ (by omega)) (fun a j _ _ => z10 _ _ (by omega)))
    · rw [z10 _ _ (by omega), k4 _ _ (by omega) (by omega) (by omega) (by omega) (by omega) (by omega), z7 _ _ (by omega) (by omega), z6 _ _ (by omega), z5 _ _ (by omega) (by omega), v2 _ _ (by omega) (by omega) (by omega) (by omega) (by omega) (by omega) (by omega), u6 _ _ (by omega) (by omega)]
      exact xup2_s _ _ _ _
    · rw [z10 _ _ (by omega), k4 _ _ (by omega) (by omega) (by omega) (by omega) (by omega) (by omega), zg _ _ (by omega) (by omega) (by omega) (by omega)]
    · rw [z10 _ _ (by omega), k4 _ _ (by omega) (by omega) (by omega) (by omega) (by omega) (by omega), zg _ _ (by omega) (by omega) (by omega) (fun ⟨y1, y, y2, y3⟩ => by omega)]
  · refine no (fun q => c q.2.2.2) ?_
    have n1 : ¬ ¬ ((if ((lns hr).2.1.1 : Int) ≤ r ∧ r ≤ (((lns hr).2.1.1 + (lns hr).2.1.2.1 : Nat) : Int) then (1 : Int) else 0, G1) : Int × xG_).1 = 0 := by
      rw [if_neg c]; exact fun q => q rfl
    rw [e0, if_neg n1]
    rfl
end
