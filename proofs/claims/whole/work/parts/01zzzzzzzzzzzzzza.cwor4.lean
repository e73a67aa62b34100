/-! THE CLASS: the SHEET: worth() -/
/-- the stack from h on alone has changed -/
def xK (h : Nat) (G G' : xG_) : Prop := ∀ a j, ¬ (a = 219 ∧ h ≤ j) → G' a j = G a j
/-- a FORMULA's code stands at o -/
def cKd (S : Nat → Nat × Nat × Nat) (G : xG_) (o L : Nat) : Prop := S o = (1, 0, 5) ∧ S (o + 1) = (2, 3, L) ∧ S (o + 2) = (2, 4, L) ∧ G o 0 = ((o + 1 : Nat) : Int) ∧ G o 1 = ((o + 2 : Nat) : Int) ∧ L ≤ 62 ∧ 226 < o
section
variable {f nx mo cc q rp o L i : Nat} {S : Nat → Nat × Nat × Nat} {G G' G'' : xG_} {m : Nat × Nat} {s : pPg} {xr cr : Nat → Nat} {M : Nat → List pRw} {C : fCs} {D : Nat → Prop}
theorem xK.id {h : Nat} : xK h G G := fun _ _ _ => rfl
theorem xK.tr {h : Nat} (h1 : xK h G G') (h2 : xK h G' G'') : xK h G G'' := fun a j p => by rw [h2 a j p, h1 a j p]
theorem xK.up {h k : Nat} (h1 : xK k G G') (hk : h ≤ k) : xK h G G' := fun a j p => h1 a j (by omega)
theorem cMr.ge2 {S' : Nat → Nat × Nat × Nat} {nx' : Nat} (h : cMr S G nx mo q rp s xr cr M) (hn : nx ≤ nx') (hS : ∀ a, a = mo ∨ a = rp ∨ (∃ p, p < s.1.length ∧ xr p ≤ a ∧ a ≤ xr p + 2) → S' a = S a) (hG : ∀ a j, a = mo ∧ j ≤ 1 ∨ a = rp ∨ (∃ p, p < s.1.length ∧ xr p ≤ a ∧ a ≤ xr p + 2) → G' a j = G a j) : cMr S' G' nx' mo q rp s xr cr M := by
  obtain ⟨h1, h2, h3, h4, h5⟩ := h
  refine ⟨by rw [hS _ (.inl rfl)]; exact h1, by rw [hG _ _ (.inl ⟨rfl, by decide⟩)]; exact h2, by rw [hG _ _ (.inl ⟨rfl, by decide⟩)]; exact h3, by rw [hS _ (.inr (.inl rfl))]; exact h4, fun p hp => ?_⟩
  obtain ⟨a1, a2, a3⟩ := h5 p hp
  exact ⟨by rw [hG _ _ (.inr (.inl rfl))]; exact a1, ⟨a2.1, by omega⟩, a3.ge (fun b b1 b2 => hS b (.inr (.inr ⟨p, hp, b1, b2⟩))) (fun j => hG _ _ (.inr (.inr ⟨p, hp, by omega, by omega⟩))) (fun j => hG _ _ (.inr (.inr ⟨p, hp, by omega, by omega⟩))) (fun j => hG _ _ (.inr (.inr ⟨p, hp, by omega, by omega⟩)))⟩
theorem cSe.k {h : Nat} (h1 : cSe S G nx mo cc q rp s xr cr M C D) (hx : xK h G G') : cSe S G' nx mo cc q rp s xr cr M C D := by
  obtain ⟨hs, hp, ⟨a1, a2⟩, ⟨a3, a4⟩, a5, a6, a7, a8, a9, a10, ⟨g1, g2, g3, g4⟩, a11⟩ := h1
  refine ⟨hs, hp.ge (fun a j hz => hx a j (by
    rcases hz with z | z | z | z | z | z | z | ⟨z, z1, z2, k, z3⟩ | z | z | z | ⟨k, z1, z2, z3⟩ <;> omega)), ⟨by rw [hx _ _ (by omega)]; exact a1, by rw [hx _ _ (by omega)]; exact a2⟩, ⟨a3, fun x hx1 hx2 => by rw [hx _ _ (by omega)]; exact a4 x hx1 hx2⟩, a5.ge2 (Nat.le_refl _) (fun _ _ => rfl) (fun a j hz => hx a j (by
    rcases hz with ⟨z, _⟩ | z | ⟨p, hp, z1, z2⟩
    · omega
    · omega
    · have := a11 p hp; omega)), a6.ge (Nat.le_refl _) (fun _ _ => rfl) (fun a j z1 z2 => hx a j (by omega)), a7, a8, a9, a10, ⟨g1, g2, g3, g4⟩, a11⟩
theorem cKd.k {h : Nat} (h1 : cKd S G o L) (hx : xK h G G') : cKd S G' o L := by
  obtain ⟨a1, a2, a3, a4, a5, a6, a7⟩ := h1
  exact ⟨a1, a2, a3, by rw [hx _ _ (by omega)]; exact a4, by rw [hx _ _ (by omega)]; exact a5, a6, a7⟩
/-- turns of worth() lead from here to there -/
def wS9 (f o : Nat) (ht ht' : Nat) (i i' d : Nat) (T T' : xT_) : Prop := ∀ fu, c105_4 f (fu + d) 216 o (ht : Int) (i : Int) T = c105_4 f fu 216 o (ht' : Int) (i' : Int) T'
theorem wS9.tr {ht ht' ht'' i i' i'' d e : Nat} {T T' T'' : xT_} (h : wS9 f o ht ht' i i' d T T') (h' : wS9 f o ht' ht'' i' i'' e T' T'') : wS9 f o ht ht'' i i'' (d + e) T T'' := fun fu => by
  have q : fu + (d + e) = fu + e + d := by omega
  rw [q, h (fu + e), h' fu]
theorem ln_o {T : xT_} (hk : cKd S G o L) : cq_ln (o + 1) (S, G, m) = some (L : Int) := by
  obtain ⟨_, h1, _, _, _, hL, _⟩ := hk
  unfold cq_ln
  show (if (S (o + 1)).1 = 2 ∧ (S (o + 1)).2.2 < 2147483648 then some ((S (o + 1)).2.2 : Int) else none) = _
  rw [h1, if_pos ⟨rfl, by show L < _; omega⟩]
theorem xmax_s (a : Int) : xmax a a = a := by unfold xmax; split <;> rfl
/-- an operand -/
theorem st_105o {c : Int × Int} {ht fu : Nat} {v : Int} (hs : cSs S) (hp : cPs G) (hk : cKd S G o L) (hi : i < L) (h1 : G (o + 1) i = c.1) (h2 : G (o + 2) i = c.2) (hc : 0 ≤ c.1 ∧ c.1 < 1100) (h13 : c.1 % 256 ≤ 13) (hh : ht < 32) (e : c106 f 216 (c.1 % 256) (c.1 / 256) c.2 (S, G, m) = some (v, (S, G, m))) : c105_4 f (fu + 1) 216 o (ht : Int) (i : Int) (S, G, m) = c105_4 f fu 216 o ((ht + 1 : Nat) : Int) ((i + 1 : Nat) : Int) (S, xup2 G 219 ht v, m) := by
  have hl := ln_o (m := m) (T := (S, G, m)) hk
  obtain ⟨k1, k2, k3, k4, k5, k6, k7⟩ := hk
  have a1 := x_a255' hc
  have a2 := x_s8' hc
  have ei : xwr ((i : Int) + 1) = ((i + 1 : Nat) : Int) := by rw [xwr_g _ (by omega) (by omega)]; omega
  have eh : xwr ((ht : Int) + 1) = ((ht + 1 : Nat) : Int) := by rw [xwr_g _ (by omega) (by omega)]; omega
  have c15 : ¬ c.1 % 256 = 15 := by omega
  have c14 : ¬ c.1 % 256 = 14 := by omega
  have c13 : ¬ 13 < c.1 % 256 := by omega
  have hil : ¬ (L : Int) ≤ (i : Int) := by omega
  have hh' : ¬ (32 : Int) ≤ (ht : Int) := by omega
  have g1 : cq_gr 0 0 5 o (S, G, m) = some (o + 1) := by
    show (if S o = (1, 0, 5) then some (G o 0).toNat else none) = _
    rw [if_pos k1, k4, Int.toNat_natCast]
  show c105_4b (c105_4 f fu) f 216 o _ _ _ = _
  unfold c105_4b
  rw [g1, Option.bind_some, hl, Option.bind_some, if_neg hil, Option.bind_some]
  unfold c105_141 c105_229
  simp (disch := omega) only [cq_gi, cq_gr, cq_a, cq_s, cq_p, cq_pr, cq_is, cq_ar, cq_ab, cq_ln, xq_nz, Option.bind_some, xup2_n, xup2_s, Int.toNat_natCast, Int.reduceToNat, if_pos, if_neg, true_and, and_true, and_self, eq_self, if_true, reduceIte, not_true_eq_false, not_false_eq_true, or_true, true_or, s216 hs, s219 hs, p216_4 hp, k1, k2, k3, k4, k5, h1, h2, a1, a2, c15, c14, c13, hh', e, eh, xmax_s, ei]
/-- a sign -/
theorem st_105s {c : Int × Int} {ht fu : Nat} {v x y : Int} (hs : cSs S) (hp : cPs G) (hk : cKd S G o L) (hi : i < L) (h1 : G (o + 1) i = c.1) (hc : 15 < c.1 ∧ c.1 < 256) (hh : ht < 31) (ex : G 219 ht = x) (ey : G 219 (ht + 1) = y) (e : c192 f c.1 x y (S, G, m) = some (v, (S, G, m))) : c105_4 f (fu + 1) 216 o ((ht + 2 : Nat) : Int) (i : Int) (S, G, m) = c105_4 f fu 216 o ((ht + 1 : Nat) : Int) ((i + 1 : Nat) : Int) (S, xup2 G 219 ht v, m) := by
  have hl := ln_o (m := m) (T := (S, G, m)) hk
  obtain ⟨k1, k2, k3, k4, k5, k6, k7⟩ := hk
  have a1 : xand c.1 255 = c.1 := by rw [x_a255' (by omega)]; omega
  have ei : xwr ((i : Int) + 1) = ((i + 1 : Nat) : Int) := by rw [xwr_g _ (by omega) (by omega)]; omega
  have eh : xwr (((ht + 2 : Nat) : Int) + -1) = ((ht + 1 : Nat) : Int) := by rw [xwr_g _ (by omega) (by omega)]; omega
  have eh2 : xwr (((ht + 1 : Nat) : Int) - 1) = (ht : Int) := by rw [xwr_g _ (by omega) (by omega)]; omega
  have c15 : ¬ c.1 = 15 := by omega
  have c14 : ¬ c.1 = 14 := by omega
  have c13 : 13 < c.1 := by omega
  have c15' : ¬ c.1 ≤ 15 := by omega
  have hil : ¬ (L : Int) ≤ (i : Int) := by omega
  have hh1 : ¬ ((ht + 2 : Nat) : Int) ≤ 1 := by omega
  have hz1 : ht < 32 := by omega
  have hz2 : ht + 1 < 32 := by omega
  have g1 : cq_gr 0 0 5 o (S, G, m) = some (o + 1) := by
    show (if S o = (1, 0, 5) then some (G o 0).toNat else none) = _
    rw [if_pos k1, k4, Int.toNat_natCast]
  have g4 : cq_gr 7 4 5 216 (S, G, m) = some 219 := by
    show (if S 216 = (1, 7, 5) then some (G 216 4).toNat else none) = _
    rw [if_pos (s216 hs), p216_4 hp]; rfl
  have ga : ∀ k : Nat, k < 32 → cq_a 4 219 (k : Int) (S, G, m) = some (G 219 k) := fun k hk => by
    unfold cq_a
    show (if (S 219).1 = 2 ∧ (S 219).2.1 = 4 ∧ 0 ≤ (k : Int) ∧ (k : Int) < ((S 219).2.2 : Int) then some (G 219 (k : Int).toNat) else none) = _
    rw [s219 hs, if_pos ⟨rfl, rfl, by omega, by show (k : Int) < ((32 : Nat) : Int); omega⟩, Int.toNat_natCast]
  have gs : cq_s 4 219 (ht : Int) v (S, G, m) = some (S, xup2 G 219 ht v, m) := by
    unfold cq_s
    show (if (S 219).1 = 2 ∧ (S 219).2.1 = 4 ∧ 0 ≤ (ht : Int) ∧ (ht : Int) < ((S 219).2.2 : Int) then _ else none) = _
    rw [s219 hs, if_pos ⟨rfl, rfl, by omega, by show (ht : Int) < ((32 : Nat) : Int); omega⟩]
    rfl
  have go : cq_a 3 (o + 1) (i : Int) (S, G, m) = some c.1 := by
    unfold cq_a
    show (if (S (o + 1)).1 = 2 ∧ (S (o + 1)).2.1 = 3 ∧ 0 ≤ (i : Int) ∧ (i : Int) < ((S (o + 1)).2.2 : Int) then some (G (o + 1) (i : Int).toNat) else none) = _
    rw [k2, if_pos ⟨rfl, rfl, by omega, by show (i : Int) < ((L : Nat) : Int); omega⟩, Int.toNat_natCast, h1]
  show c105_4b (c105_4 f fu) f 216 o _ _ _ = _
  unfold c105_4b
  rw [g1, Option.bind_some, hl, Option.bind_some, if_neg hil, Option.bind_some, go, Option.bind_some, a1, if_pos c15, if_pos c14]
  unfold c105_141
  rw [if_pos c13]
  unfold c105_187
  rw [if_neg c15', if_neg hh1, g4, Option.bind_some, Option.bind_some, eh, eh2, ga ht hz1, Option.bind_some, Option.bind_some, ga (ht + 1) hz2, Option.bind_some, ex, ey, e, Option.bind_some, gs, Option.bind_some]
  unfold c105_229
  rw [xmax_s, ei]
/-- JUMP -/
theorem st_105j {a : Nat} {ht fu : Nat} (hk : cKd S G o L) (hi : i < L) (h1 : G (o + 1) i = 15) (h2 : G (o + 2) i = (a : Int)) (ha : i < a) (ha2 : a ≤ 100) : c105_4 f (fu + 1) 216 o (ht : Int) (i : Int) (S, G, m) = c105_4 f fu 216 o (ht : Int) (a : Int) (S, G, m) := by
  have hl := ln_o (m := m) (T := (S, G, m)) hk
  obtain ⟨k1, k2, k3, k4, k5, k6, k7⟩ := hk
  have a1 : xand 15 255 = 15 := by decide
  have w0 : xwr (a : Int) = (a : Int) := xwr_g _ (by omega) (by omega)
  have w1 : xwr ((a : Int) - 1) = ((a - 1 : Nat) : Int) := by rw [xwr_g _ (by omega) (by omega)]; omega
  have em : xmax (i : Int) ((a - 1 : Nat) : Int) = ((a - 1 : Nat) : Int) := by unfold xmax; split <;> omega
  have ei : xwr (((a - 1 : Nat) : Int) + 1) = (a : Int) := by rw [xwr_g _ (by omega) (by omega)]; omega
  have hil : ¬ (L : Int) ≤ (i : Int) := by omega
  have g1 : cq_gr 0 0 5 o (S, G, m) = some (o + 1) := by
    show (if S o = (1, 0, 5) then some (G o 0).toNat else none) = _
    rw [if_pos k1, k4, Int.toNat_natCast]
  show c105_4b (c105_4 f fu) f 216 o _ _ _ = _
  unfold c105_4b
  rw [g1, Option.bind_some, hl, Option.bind_some, if_neg hil, Option.bind_some]
  unfold c105_229
  simp (disch := omega) only [cq_gi, cq_gr, cq_a, cq_s, cq_p, cq_pr, cq_is, cq_ar, cq_ab, cq_ln, xq_nz, Option.bind_some, xup2_n, xup2_s, Int.toNat_natCast, Int.reduceToNat, if_pos, if_neg, true_and, and_true, and_self, eq_self, if_true, reduceIte, not_true_eq_false, not_false_eq_true, or_true, true_or, k1, k2, k3, k4, k5, h1, h2, a1, w0, w1, em, ei]
/-- TEST -/
theorem st_105t {a : Nat} {ht fu : Nat} {x : Int} (hs : cSs S) (hp : cPs G) (hk : cKd S G o L) (hi : i < L) (h1 : G (o + 1) i = 14) (h2 : G (o + 2) i = (a : Int)) (ha : i + 2 ≤ a) (ha2 : a ≤ 100) (hh : ht < 32) (ex : G 219 ht = x) : c105_4 f (fu + 1) 216 o ((ht + 1 : Nat) : Int) (i : Int) (S, G, m) = if x < -1000000000000 then c105_4 f fu 216 o ((ht + 1 : Nat) : Int) ((a - 1 : Nat) : Int) (S, G, m) else if x = 0 then c105_4 f fu 216 o (ht : Int) (a : Int) (S, G, m) else c105_4 f fu 216 o (ht : Int) ((i + 1 : Nat) : Int) (S, G, m) := by
  have hl := ln_o (m := m) (T := (S, G, m)) hk
  obtain ⟨k1, k2, k3, k4, k5, k6, k7⟩ := hk
  have a1 : xand 14 255 = 14 := by decide
  have w0 : xwr (a : Int) = (a : Int) := xwr_g _ (by omega) (by omega)
  have w1 : xwr ((a : Int) - 1) = ((a - 1 : Nat) : Int) := by rw [xwr_g _ (by omega) (by omega)]; omega
  have w2 : xwr ((a : Int) - 2) = ((a - 2 : Nat) : Int) := by rw [xwr_g _ (by omega) (by omega)]; omega
  have em : xmax (i : Int) ((a - 1 : Nat) : Int) = ((a - 1 : Nat) : Int) := by unfold xmax; split <;> omega
  have em2 : xmax (i : Int) ((a - 2 : Nat) : Int) = ((a - 2 : Nat) : Int) := by unfold xmax; split <;> omega
  have ei : xwr (((a - 1 : Nat) : Int) + 1) = (a : Int) := by rw [xwr_g _ (by omega) (by omega)]; omega
  have ei2 : xwr (((a - 2 : Nat) : Int) + 1) = ((a - 1 : Nat) : Int) := by rw [xwr_g _ (by omega) (by omega)]; omega
  have ei3 : xwr ((i : Int) + 1) = ((i + 1 : Nat) : Int) := by rw [xwr_g _ (by omega) (by omega)]; omega
  have eh : xwr (((ht + 1 : Nat) : Int) - 1) = (ht : Int) := by rw [xwr_g _ (by omega) (by omega)]; omega
  have eh0 : xwr (((ht + 1 : Nat) : Int) - 0) = ((ht + 1 : Nat) : Int) := by rw [xwr_g _ (by omega) (by omega)]; omega
  have hil : ¬ (L : Int) ≤ (i : Int) := by omega
  have hh0 : ¬ ((ht + 1 : Nat) : Int) ≤ 0 := by omega
  have g1 : cq_gr 0 0 5 o (S, G, m) = some (o + 1) := by
    show (if S o = (1, 0, 5) then some (G o 0).toNat else none) = _
    rw [if_pos k1, k4, Int.toNat_natCast]
  have g2 : cq_gr 0 1 5 o (S, G, m) = some (o + 2) := by
    show (if S o = (1, 0, 5) then some (G o 1).toNat else none) = _
    rw [if_pos k1, k5, Int.toNat_natCast]
  have g4 : cq_gr 7 4 5 216 (S, G, m) = some 219 := by
    show (if S 216 = (1, 7, 5) then some (G 216 4).toNat else none) = _
    rw [if_pos (s216 hs), p216_4 hp]; rfl
  have ga : cq_a 4 219 (ht : Int) (S, G, m) = some x := by
    unfold cq_a
    show (if (S 219).1 = 2 ∧ (S 219).2.1 = 4 ∧ 0 ≤ (ht : Int) ∧ (ht : Int) < ((S 219).2.2 : Int) then some (G 219 (ht : Int).toNat) else none) = _
    rw [s219 hs, if_pos ⟨rfl, rfl, by omega, by show (ht : Int) < ((32 : Nat) : Int); omega⟩, Int.toNat_natCast, ex]
  have go : cq_a 3 (o + 1) (i : Int) (S, G, m) = some 14 := by
    unfold cq_a
    show (if (S (o + 1)).1 = 2 ∧ (S (o + 1)).2.1 = 3 ∧ 0 ≤ (i : Int) ∧ (i : Int) < ((S (o + 1)).2.2 : Int) then some (G (o + 1) (i : Int).toNat) else none) = _
    rw [k2, if_pos ⟨rfl, rfl, by omega, by show (i : Int) < ((L : Nat) : Int); omega⟩, Int.toNat_natCast, h1]
  have go2 : cq_a 4 (o + 2) (i : Int) (S, G, m) = some (a : Int) := by
    unfold cq_a
    show (if (S (o + 2)).1 = 2 ∧ (S (o + 2)).2.1 = 4 ∧ 0 ≤ (i : Int) ∧ (i : Int) < ((S (o + 2)).2.2 : Int) then some (G (o + 2) (i : Int).toNat) else none) = _
    rw [k3, if_pos ⟨rfl, rfl, by omega, by show (i : Int) < ((L : Nat) : Int); omega⟩, Int.toNat_natCast, h2]
  show c105_4b (c105_4 f fu) f 216 o _ _ _ = _
  unfold c105_4b
  rw [g1, Option.bind_some, hl, Option.bind_some, if_neg hil, Option.bind_some, go, Option.bind_some, a1, if_pos (by decide), if_neg (by decide), if_neg hh0, g4, Option.bind_some, eh, ga, Option.bind_some]
  by_cases c : x < -1000000000000
  · rw [if_neg (show ¬ -1000000000000 ≤ x by omega), if_pos c]
    unfold c105_84 c105_97 c105_136 c105_229
    rw [if_neg (by decide), if_neg (by decide), g2, Option.bind_some, go2, Option.bind_some, w0, w2, eh0, em2, ei2]
  · rw [if_pos (show -1000000000000 ≤ x by omega), if_neg c]
    unfold c105_84 c105_97 c105_136 c105_229
    rw [if_pos rfl, if_pos rfl]
    by_cases c0 : x = 0
    · rw [if_neg (fun z => z c0), if_pos c0, g2, Option.bind_some, go2, Option.bind_some, w0, w1, eh, em, ei]
    · rw [if_pos c0, if_neg c0, eh, xmax_s, ei3]
end
