section
/-! THE CLASS: one call of the law -/
section
variable {f A hr n sl : Nat} {S : Nat → Nat × Nat × Nat} {G G' : xG_} {m : Nat × Nat} {T : List (List Int)} {P : Nat → Nat} {lns lns' : Nat → sLn} {tx : List Int} {kp : Nat × List (List Int)} {mt mt' : Int × List Int} {pl rf : Int}
/-- what the reference's state says of the house -/
def rIn (H : sHs) (n : Nat) : Prop := match H with
  | (T, lns, hr, _, _, _, _, rf) => (∀ y, y < 4 → sOk T (lns y) n ∧ lInv T (lns y) ∧ (∀ i, i < (lns y).2.2.2.1.1.length → ((lns y).2.2.2.1.1.getD i dPe).2.2.length ≤ 4) ∧ ∃ s M, isMo T (lMo (lns y)) s M) ∧ fInv lns ∧ (0 ≤ rf ∧ rf ≤ n) ∧ hr < 4 ∧ ∀ K, kOk T K → okX (xOf T K)
theorem rh_in {Gr : xG_} {H : sHs} (h : rHs Gr H n) : rIn H n := by
  obtain ⟨T, lns, hr, tx, kp, mt, pl, rf⟩ := H
  obtain ⟨mm, h1, h2, h3, h4, h5, h6, h7, h8, h9⟩ := h
  obtain ⟨j1, j2, j3, j4, j5, j6, j7, j8, j9⟩ := h1
  refine ⟨fun y hy => ?_, h2.2, by rw [← h7]; exact j6, j4, fun K hK => ?_⟩
  · obtain ⟨s, M, l1, l2, l3⟩ := j5 y hy
    exact ⟨l3, h2.1 y hy, fun i hi => (l2.2.2.2.2.2.2.2.2.2.1.1.2.2 i hi).2.2.2.1, s, M, l1⟩
  · obtain ⟨G2, hG2⟩ : ∃ G2, G2 = xz1 Gr 1015 (fun c => (K c : Int)) := ⟨_, rfl⟩
    have z : ∀ a j, a < 1000 → G2 a j = Gr a j := fun a j y => by rw [hG2]; exact xz1_n _ (by omega)
    refine okX_of (G := G2) (o := 1000) (m := mm) (j1.ge (fun j _ _ => z _ _ (by omega))) (j2.ge (z _ _ (by omega)) (z _ _ (by omega)) (fun a j _ => z _ _ (by omega))) (fun c hc => ⟨?_, hK.1 c, hK.2 c hc⟩)
    rw [hG2]
    exact xz1_s _ _ _ _
/-- the answer of a call that may throw -/
theorem cHs.o5 {v : Int} {H : sHs} (h : cHs S G A H n) : cHs S (xup2 G 555 0 v) A H n := by
  obtain ⟨T, lns, hr, tx, kp, mt, pl, rf⟩ := H
  have hG : ∀ a j, a ≠ 555 → xup2 G 555 0 v a j = G a j := fun a j y => xup2_n (by omega)
  obtain ⟨⟨a1, a2, a3, a4⟩, ⟨P, d1, d2, d3⟩, ⟨c1, c2⟩, ⟨c3, c4⟩, c5', c6', c7', ⟨an, sp, k1, k2, k3, k4⟩, c9'⟩ := h
  have sf : xSf A G (xup2 G 555 0 v) := fun a j y1 y2 => hG a j (by omega)
  have id1 : ∀ a, a < A → S a = S a := fun _ _ => rfl
  refine ⟨⟨a1, a2.ge (fun a j hz => hG a j (by
      rcases hz with z | z | z | z | z | z | z | ⟨z, z1, z2, k, z3⟩ | z | z | z | ⟨k, z1, z2, z3⟩ <;> omega)), a3.ge (fun a j y1 y2 => hG a j (by omega)), a4⟩, ⟨P, d1.ge (Nat.le_refl _) id1 sf (by rw [hG _ _ (by omega)]; exact Int.le_refl _), fun y hy => (d2 y hy).ge (Nat.le_refl _) id1 sf (fun a j y1 y2 => hG a j (by omega)), d3.ge (Nat.le_refl _) id1 sf ⟨hG _ _ (by omega), hG _ _ (by omega)⟩⟩, ⟨c1, by rw [hG _ _ (by omega)]; exact c2⟩, ⟨by rw [hG _ _ (by omega)]; exact c3, by rw [hG _ _ (by omega)]; omega⟩, by rw [hG _ _ (by omega)]; exact c5', by rw [hG _ _ (by omega)]; exact c6', c7'.ge (hG _ _ (by omega)) (fun p => hG _ _ (by omega)), ⟨an, sp, k1, by rw [hG _ _ (by omega)]; exact k2, by rw [hG _ _ (by omega)]; exact k3, k4.ge (fun _ _ _ => rfl) (fun j => hG _ _ (by omega)) (fun j => hG _ _ (by omega)) (fun j => hG _ _ (by omega))⟩, c9'.ge ⟨hG _ _ (by omega), hG _ _ (by omega)⟩ (fun j => hG _ _ (by omega))⟩
/-- the class behind a call: cells and slots that it took -/
def cAf (S : Nat → Nat × Nat × Nat) (A sl : Nat) (H' : sHs) (n : Nat) (X : xT_) : Prop := cHs X.1 X.2.1 X.2.2.1 H' n ∧ (A ≤ X.2.2.1 ∧ X.2.2.1 ≤ A + 330 ∧ X.2.2.2 ≤ sl + 10400) ∧ X.1 555 = (2, 4, 1)
/-- a call of the law that may throw -/
theorem wr_ok {H : sHs} {call : xT_ → Option ((Nat ⊕ Int) × xT_)} {v t : Int} (h : cHs S G A H n) (h5 : S 555 = (2, 4, 1)) (e : (t = 0 ∧ ∃ S' G' m', call (S, G, (A, sl)) = some (.inr v, (S', G', m')) ∧ (A ≤ m'.1 ∧ m'.1 ≤ A + 330 ∧ m'.2 ≤ sl + 10400) ∧ S' 555 = (2, 4, 1) ∧ cHs S' G' m'.1 H (n + 1)) ∨ (t = 1 ∧ call (S, G, (A, sl)) = some (.inl 1, cq_ex (S, G, (A, sl))))) : ∃ X, ((cq_is 11 17 64 (S, G, (A, sl))).bind fun _ => ((call (S, G, (A, sl))).bind fun R101 => chd R101 1 ((some ((1 : Int), R101.2))) (fun v107 => ((cq_s 4 555 (0) (v107) R101.2).bind fun T110 => (some (0, T110)))))) = some (t, X) ∧ (t = 0 → X.2.1 555 0 = v) ∧ cAf S A sl H (n + 1) X ∧ (t = 0 ∨ t = 1) := by
  have i1 : cq_is 11 17 64 (S, G, (A, sl)) = some () := if_pos (s64 (by obtain ⟨T, lns, hr, tx, kp, mt, pl, rf⟩ := H; exact h.1.1))
  rw [i1, Option.bind_some]
  have a4 : 555 < A := by obtain ⟨T, lns, hr, tx, kp, mt, pl, rf⟩ := H; exact h.1.2.2.2
  rcases e with ⟨rfl, S', G', m', e1, e2, e3, e4⟩ | ⟨rfl, e1⟩
  · rw [e1, Option.bind_some]
    have es : cq_s 4 555 0 v (S', G', m') = some (S', xup2 G' 555 0 v, m') := o_s (z := 0) e3 (by omega)
    show ∃ X, ((cq_s 4 555 0 v (S', G', m')).bind fun T110 => some ((0 : Int), T110)) = some (0, X) ∧ _
    rw [es, Option.bind_some]
    exact ⟨_, rfl, fun _ => (show xup2 G' 555 0 v 555 0 = v from xup2_s _ _ _ _), ⟨e4.o5, e2, e3⟩, .inl rfl⟩
  · rw [e1, Option.bind_some]
    show ∃ X, some ((1 : Int), cq_ex (S, G, (A, sl))) = some (1, X) ∧ _
    refine ⟨_, rfl, fun z => absurd z (by decide), ⟨h.ex (Nat.le_succ _), ⟨Nat.le_succ _, by show A + 1 ≤ A + 330; omega, by show sl + 6 ≤ sl + 10400; omega⟩, ?_⟩, .inr rfl⟩
    show xup1 S A (0, 0, 0) 555 = (2, 4, 1)
    rw [xup1_n (by omega)]
    exact h5
/-- the call c of the class as the law does it -/
def cCl (c f : Nat) (B : sAr) (T : xT_) : Option (Int × xT_) := match c with
  | 0 => c169 f 64 B.1 B.2.1 B.2.2.1 B.2.2.2.1 B.2.2.2.2 T
  | 1 => c170 f 64 B.1 T
  | 2 => c1000 f 64 T
  | 3 => c171 f 64 T
  | 4 => c1001 f 64 T
  | 5 => c1002 f 64 T
  | 6 => c172 f 64 T
  | 7 => c173 f 64 T
  | 8 => c174 f 64 B.1 T
  | 9 => c1004 f 64 B.1 B.2.1 555 T
  | 10 => c1005 f 64 B.1 B.2.1 B.2.2.1 555 T
  | 11 => c177 f 64 T
  | 12 => c1006 f 64 B.1 B.2.1 555 T
  | 13 => c1003 f 64 T
  | 14 => c1007 f 64 B.1 B.2.1 555 T
  | 15 => c1008 f 64 B.1 B.2.1 555 T
  | 16 => c1009 f 64 B.1 B.2.1 B.2.2.1 555 T
  | 17 => c1010 f 64 B.1 B.2.1 B.2.2.1 555 T
  | 18 => c184 f 64 B.1 B.2.1 T
  | 19 => c1011 f 64 B.1 B.2.1 B.2.2.1 B.2.2.2.1 555 T
  | 20 => c186 f 64 B.1 T
  | 21 => c187 f 64 B.1 B.2.1 T
  | 22 => c188 f 64 B.1 T
  | 23 => c189 f 64 B.1 T
  | 24 => c1012 f 64 B.1 555 T
  | _ => none
/-- which calls may throw -/
def isTh (c : Nat) : Bool := c == 9 || c == 10 || c == 12 || c == 14 || c == 15 || c == 16 || c == 17 || c == 19 || c == 24
theorem c_step {c : Nat} {B : sAr} {H H' : sHs} {v t : Int} (hf : 100003010 < f) (hn : n ≤ 515) (hc : c ≤ 24) (hB : B.1 < 2147483648) (hG2 : ∀ m, gG2 f S m) (h : cHs S G A H n) (h5 : S 555 = (2, 4, 1)) (hI : rIn H n) (hst : stC c B H v t H') (hI' : rIn H' (n + 1)) : ∃ w X, cCl c f B (S, G, (A, sl)) = some (w, X) ∧ (isTh c = false → w = v) ∧ (isTh c = true → w = t ∧ (t = 0 → X.2.1 555 0 = v)) ∧ cAf S A sl H' (n + 1) X := by
  obtain ⟨T, lns, hr, tx, kp, mt, pl, rf⟩ := H
  obtain ⟨q1, q2, q3, q4, q5⟩ := hI
  have hb : ∀ y, y < 4 → (lns y).2.1.1 + (lns y).2.1.2.1 < 520 := fun y hy => by
    have := (q1 y hy).1.2.2.1.1
    omega
  have bh := hb hr q4
  have hh := h
  have a4 : 555 < A := h.1.2.2.2
  -- a call that makes nothing
  have st0 : ∀ {H'' : sHs} {w : Int} (G' : xG_), isTh c = false → cCl c f B (S, G, (A, sl)) = some (w, (S, G', (A, sl))) → w = v → cHs S G' A H'' (n + 1) → H'' = H' → ∃ w X, cCl c f B (S, G, (A, sl)) = some (w, X) ∧ (isTh c = false → w = v) ∧ (isTh c = true → w = t ∧ (t = 0 → X.2.1 555 0 = v)) ∧ cAf S A sl H' (n + 1) X := fun {H'' w} G' i1 i2 i3 i4 i5 => by
    subst i5
    exact ⟨w, _, i2, fun _ => i3, fun z => (by rw [i1] at z; cases z), i4, ⟨Nat.le_refl _, Nat.le_add_right _ _, Nat.le_add_right _ _⟩, h5⟩
  -- one that makes cells
  have st1 : ∀ {H'' : sHs} {w : Int} (S' : Nat → Nat × Nat × Nat) (G' : xG_) (m' : Nat × Nat), isTh c = false → cCl c f B (S, G, (A, sl)) = some (w, (S', G', m')) → w = v → (A ≤ m'.1 ∧ m'.1 ≤ A + 330 ∧ m'.2 ≤ sl + 10400) → S' 555 = (2, 4, 1) → cHs S' G' m'.1 H'' (n + 1) → H'' = H' → ∃ w X, cCl c f B (S, G, (A, sl)) = some (w, X) ∧ (isTh c = false → w = v) ∧ (isTh c = true → w = t ∧ (t = 0 → X.2.1 555 0 = v)) ∧ cAf S A sl H' (n + 1) X := fun {H'' w} S' G' m' i1 i2 i3 i4 i6 i7 i5 => by
    subst i5
    exact ⟨w, _, i2, fun _ => i3, fun z => (by rw [i1] at z; cases z), i7, i4, i6⟩
  -- one that may throw
  have st2 : ∀ {call : xT_ → Option ((Nat ⊕ Int) × xT_)}, isTh c = true → cCl c f B (S, G, (A, sl)) = ((cq_is 11 17 64 (S, G, (A, sl))).bind fun _ => ((call (S, G, (A, sl))).bind fun R101 => chd R101 1 ((some ((1 : Int), R101.2))) (fun v107 => ((cq_s 4 555 (0) (v107) R101.2).bind fun T110 => (some (0, T110)))))) → ((t = 0 ∧ ∃ S' G' m', call (S, G, (A, sl)) = some (.inr v, (S', G', m')) ∧ (A ≤ m'.1 ∧ m'.1 ≤ A + 330 ∧ m'.2 ≤ sl + 10400) ∧ S' 555 = (2, 4, 1) ∧ cHs S' G' m'.1 (T, lns, hr, tx, kp, mt, pl, rf) (n + 1)) ∨ (t = 1 ∧ call (S, G, (A, sl)) = some (.inl 1, cq_ex (S, G, (A, sl))))) → H' = (T, lns, hr, tx, kp, mt, pl, rf) → ∃ w X, cCl c f B (S, G, (A, sl)) = some (w, X) ∧ (isTh c = false → w = v) ∧ (isTh c = true → w = t ∧ (t = 0 → X.2.1 555 0 = v)) ∧ cAf S A sl H' (n + 1) X := fun {call} i1 i2 i3 i4 => by
    subst i4
    obtain ⟨X, x1, x2, x3, x4⟩ := wr_ok hh h5 i3
    exact ⟨t, X, i2.trans x1, fun z => (by rw [i1] at z; cases z), fun _ => ⟨rfl, x2⟩, x3⟩
  have q3r : ∀ {call : xT_ → Option ((Nat ⊕ Int) × xT_)}, ((t = 0 ∧ call (S, G, (A, sl)) = some (.inr v, (S, G, (A, sl)))) ∨ (t = 1 ∧ call (S, G, (A, sl)) = some (.inl 1, cq_ex (S, G, (A, sl))))) → ((t = 0 ∧ ∃ S' G' m', call (S, G, (A, sl)) = some (.inr v, (S', G', m')) ∧ (A ≤ m'.1 ∧ m'.1 ≤ A + 330 ∧ m'.2 ≤ sl + 10400) ∧ S' 555 = (2, 4, 1) ∧ cHs S' G' m'.1 (T, lns, hr, tx, kp, mt, pl, rf) (n + 1)) ∨ (t = 1 ∧ call (S, G, (A, sl)) = some (.inl 1, cq_ex (S, G, (A, sl))))) := fun {call} i => by
    rcases i with ⟨i1, i2⟩ | i
    · exact .inl ⟨i1, S, G, (A, sl), i2, ⟨Nat.le_refl _, Nat.le_add_right _ _, Nat.le_add_right _ _⟩, h5, hh.al (Nat.le_succ _) (Nat.le_refl _) (fun _ _ => rfl) (fun _ _ _ => rfl)⟩
    · exact .inr i
  have keep := hh.al (n' := n + 1) (Nat.le_succ _) (Nat.le_refl _) (fun _ _ => rfl) (fun _ _ _ => rfl)
  rcases (by omega : c = 0 ∨ c = 1 ∨ c = 2 ∨ c = 3 ∨ c = 4 ∨ c = 5 ∨ c = 6 ∨ c = 7 ∨ c = 8 ∨ c = 9 ∨ c = 10 ∨ c = 11 ∨ c = 12 ∨ c = 13 ∨ c = 14 ∨ c = 15 ∨ c = 16 ∨ c = 17 ∨ c = 18 ∨ c = 19 ∨ c = 20 ∨ c = 21 ∨ c = 22 ∨ c = 23 ∨ c = 24) with rfl | rfl | rfl | rfl | rfl | rfl | rfl | rfl | rfl | rfl | rfl | rfl | rfl | rfl | rfl | rfl | rfl | rfl | rfl | rfl | rfl | rfl | rfl | rfl | rfl
  · obtain ⟨tx', x1, x2⟩ := hst
    obtain ⟨G', k1, k2⟩ := k_169f (f := f) (m := (A, sl)) (by omega) h x1
    exact st0 G' rfl k1 rfl k2 x2.symm
  · obtain ⟨tx', x1, x2⟩ := hst
    obtain ⟨G', k1, k2⟩ := k_170 (f := f) (m := (A, sl)) h x1
    exact st0 G' rfl k1 rfl k2 x2.symm
  · obtain ⟨pl', T', lns', x1, x2⟩ := hst
    obtain ⟨S', G', m', k1, k2, k3, k4⟩ := k_pg (f := f) (sl := sl) (by omega) (by omega) h (fun y hy => (q1 y hy).1.2.2.2.2.2.2.2.2.2) x1
    exact st1 S' G' m' rfl k1 rfl (by omega) (by rw [k3 _ (by omega)]; exact h5) k4 x2.symm
  · obtain ⟨x1, x2⟩ := hst
    exact st0 G rfl (k_171 (f := f) (m := (A, sl)) h) x1.symm keep x2.symm
  · obtain ⟨pl', lns', x1, x2⟩ := hst
    obtain ⟨S', G', m', k1, k2, k3, k4⟩ := k_ch (f := f) (sl := sl) (by omega) h bh (q1 hr q4).2.2.1 x1
    exact st1 S' G' m' rfl k1 rfl (by omega) (by rw [k3 _ (by omega)]; exact h5) k4 x2.symm
  · obtain ⟨T', lns', x1, x2⟩ := hst
    obtain ⟨S', G', m', k1, k2, k3, k4⟩ := k_ce (f := f) (sl := sl) (by omega) h (fun y hy => (q1 y hy).1.2.2.2.2.2.2.2.2.2) x1
    exact st1 S' G' m' rfl k1 rfl (by omega) (by rw [k3 _ (by omega)]; exact h5) k4 x2.symm
  · obtain ⟨x1, x2⟩ := hst
    obtain ⟨G', k1, k2⟩ := k_172 (f := f) (m := (A, sl)) (by omega) h
    exact st0 G' rfl k1 x1.symm k2 x2.symm
  · obtain ⟨ln', good, x1, x2⟩ := hst
    subst x2
    obtain ⟨p1, _⟩ := hI'
    have hnew := (p1 hr q4).2.2.2
    unfold lUp at hnew
    rw [if_pos rfl] at hnew
    obtain ⟨S', G', m', k1, k2, k3, k4⟩ := k_rd (f := f) (sl := sl) hf h hn (q1 hr q4).2.1 (q1 hr q4).1 q5 (by omega) x1 hnew
    exact st1 S' G' m' rfl k1 rfl (by omega) (by rw [k3 _ (by omega)]; exact h5) k4 rfl
  · obtain ⟨x1, x2⟩ := hst
    exact st0 G rfl (k_174 (f := f) (m := (A, sl)) (by omega) h bh x1) rfl keep x2.symm
  · obtain ⟨x1, x2⟩ := hst
    exact st2 (call := c175 f 64 B.1 B.2.1) rfl rfl (q3r (k_175 (f := f) (m := (A, sl)) (by omega) h bh x1)) x2
  · obtain ⟨x1, x2⟩ := hst
    exact st2 (call := c176 f 64 B.1 B.2.1 B.2.2.1) rfl rfl (q3r (k_176 (f := f) (m := (A, sl)) h bh x1)) x2
  · obtain ⟨x1, x2⟩ := hst
    exact st0 G rfl (k_177e (f := f) (m := (A, sl)) (by omega) h x1) rfl keep x2.symm
  · obtain ⟨x1, x2⟩ := hst
    refine st2 (call := c178 f 64 B.1 B.2.1) rfl rfl ?_ x2
    rcases k_178 (f := f) (sl := sl) (by omega) hB h x1 with ⟨y1, S', G', m', y2, y3, y4, y5, y6, y7, y8⟩ | y
    · exact .inl ⟨y1, S', G', m', y2, by omega, by rw [y7 _ (by omega)]; exact h5, hh.al (Nat.le_succ _) y3 y7 y8⟩
    · exact .inr y
  · obtain ⟨pl', kp', ⟨s, M, x1, x3⟩, x2⟩ := hst
    obtain ⟨S', G', m', k1, k2, k3, k4⟩ := k_qu (f := f) (sl := sl) hf h bh x1 x3
    exact st1 S' G' m' rfl k1 rfl (by omega) (by rw [k3 _ (by omega)]; exact h5) k4 x2.symm
  · obtain ⟨x1, x2⟩ := hst
    exact st2 (call := c180 f 64 B.1 B.2.1) rfl rfl (q3r (k_180 (f := f) (m := (A, sl)) h x1)) x2
  · obtain ⟨x1, x2⟩ := hst
    exact st2 (call := c181 f 64 B.1 B.2.1) rfl rfl (q3r (k_181 (f := f) (m := (A, sl)) h bh x1)) x2
  · obtain ⟨x1, x2⟩ := hst
    refine st2 (call := c182 f 64 B.1 B.2.1 B.2.2.1) rfl rfl ?_ x2
    rcases k_182 (f := f) (m := (A, sl)) hf (hG2 _) h bh x1 with ⟨y1, G', y2, y3⟩ | y
    · exact .inl ⟨y1, S, G', (A, sl), y2, ⟨Nat.le_refl _, Nat.le_add_right _ _, Nat.le_add_right _ _⟩, h5, y3⟩
    · exact .inr y
  · obtain ⟨x1, x2⟩ := hst
    obtain ⟨s, M, isM⟩ := (q1 hr q4).2.2.2
    exact st2 (call := c183 f 64 B.1 B.2.1 B.2.2.1) rfl rfl (q3r (k_183 (f := f) (m := (A, sl)) h bh x1 (q5 _ isM.2.2.2.2.2.2))) x2
  · obtain ⟨x1, x2⟩ := hst
    exact st0 G rfl (k_184 (f := f) (m := (A, sl)) h bh x1) rfl keep x2.symm
  · obtain ⟨x1, x2⟩ := hst
    exact st2 (call := c185 f 64 B.1 B.2.1 B.2.2.1 B.2.2.2.1) rfl rfl (q3r (k_185 (f := f) (m := (A, sl)) h bh (q1 hr q4).1.1 x1)) x2
  · obtain ⟨lns', x1, x2⟩ := hst
    obtain ⟨G', k1, k2⟩ := k_186 (f := f) (m := (A, sl)) (by omega) h bh x1
    exact st0 G' rfl k1 rfl k2 x2.symm
  · obtain ⟨lns', x1, x2⟩ := hst
    obtain ⟨G', k1, k2⟩ := k_187 (f := f) (m := (A, sl)) (by omega) h bh (fun y hy => by
      rcases q2 y hy with z | ⟨x, r, _, _, z, _⟩
      · exact .inl z
      · right; rw [z]; show (0 : Int) ≤ (r : Int); omega) x1
    exact st0 G' rfl k1 rfl k2 x2.symm
  · obtain ⟨x1, x2⟩ := hst
    obtain ⟨G', k1, k2⟩ := k_188 (f := f) (k := B.1) (m := (A, sl)) h
    exact st0 G' rfl k1 x1.symm k2 x2.symm
  · obtain ⟨mt', lns', x1, x2⟩ := hst
    obtain ⟨S', G', m', k1, k2, k3, k4⟩ := k_189 (f := f) (sl := sl) (by omega) h hb (q1 hr q4).2.2.1 x1
    exact st1 S' G' m' rfl k1 rfl (by omega) (by rw [k3 _ (by omega)]; exact h5) k4 x2.symm
  · obtain ⟨x1, x2⟩ := hst
    exact st2 (call := c191 f 64 B.1) rfl rfl (q3r (k_191 (f := f) (m := (A, sl)) h x1)) x2
end
end
