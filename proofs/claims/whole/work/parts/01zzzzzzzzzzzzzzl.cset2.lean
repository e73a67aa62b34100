/-! THE CLASS: the SHEET: settle(), the loop over the texts -/
/-- the text of a CELL behind a round, c of them told -/
def xT9 (G : xG_) (ln tp c y : Nat) : Int := if y < c ∧ ¬ G (ln + 7) y = 0 then G (ln + 8) y else G tp y
/-- how many texts are told -/
def tC9 (G : xG_) (ln : Nat) : Nat → Nat
  | 0 => 0
  | c + 1 => tC9 G ln c + (if G (ln + 7) c = 0 then 0 else 1)
/-- what stays while texts are settled -/
def sE9 (S : Nat → Nat × Nat × Nat) (G : xG_) (A ah be ln tp : Nat) : Prop := (be < A ∧ ah < A ∧ ln + 8 < A ∧ tp < A) ∧ (S be = (1, 2, 8) ∧ S ah = (1, 2, 8) ∧ G ah 2 = (tp : Int) ∧ S tp = (2, 5, 72)) ∧ (be ≠ ah ∧ be ≠ tp ∧ be ≠ ln ∧ be ≠ ln + 7 ∧ be ≠ ln + 8) ∧ (S ln = (1, 1, 14) ∧ S (ln + 7) = (2, 0, 72) ∧ S (ln + 8) = (2, 5, 72) ∧ G ln 12 = ((ln + 7 : Nat) : Int) ∧ G ln 13 = ((ln + 8 : Nat) : Int)) ∧ (∀ y, y < 72 → ∃ o : Nat, G (ln + 8) y = (o : Int) ∧ (o = 0 ∨ S o = (1, 0, 5) ∧ o < A)) ∧ ∀ y, y < 72 → ∃ o : Nat, G tp y = (o : Int)
def sI9 (S0 : Nat → Nat × Nat × Nat) (G0 : xG_) (A sl be ln tp c : Nat) (S : Nat → Nat × Nat × Nat) (G : xG_) (m : Nat × Nat) (n : Nat) (u : Int) : Prop := (∀ a, a < A → S a = S0 a) ∧ (∀ a j, a < A → ¬ (a = be ∧ (j = 2 ∨ j = 5)) → G a j = G0 a j) ∧ (G be 5 = (n : Int) ∧ n ≤ c ∧ n = tC9 G0 ln c) ∧ ((n = 0 ∧ G be 2 = (tp : Int) ∧ m = (A, sl) ∧ S = S0 ∧ ∀ y, y < c → G0 (ln + 7) y = 0) ∨ (0 < n ∧ G be 2 = (A : Int) ∧ S A = (2, 5, 72) ∧ m = (A + 1, sl + 72) ∧ (∀ y, y < 72 → G A y = xT9 G0 ln tp c y) ∧ ∃ y, y < c ∧ ¬ G0 (ln + 7) y = 0)) ∧ isB u (∃ y, y < c ∧ xT9 G0 ln tp 72 y ≠ 0)
theorem xor_01 : xor_ 0 0 = 0 ∧ xor_ 0 1 = 1 ∧ xor_ 1 0 = 1 ∧ xor_ 1 1 = 1 := by decide
section
variable {f ah be ln tp A sl : Nat} {S0 : Nat → Nat × Nat × Nat} {G0 : xG_} {ch : Int}
theorem u_nx {u : Int} {c x : Nat} (h : isB u (∃ y, y < c ∧ xT9 G0 ln tp 72 y ≠ 0)) (hx : xT9 G0 ln tp 72 c = (x : Int)) : isB (xor_ u (if x = 0 then 0 else 1)) (∃ y, y < c + 1 ∧ xT9 G0 ln tp 72 y ≠ 0) := by
  obtain ⟨x1, x2, x3, x4⟩ := xor_01
  have hiff : (∃ y, y < c + 1 ∧ xT9 G0 ln tp 72 y ≠ 0) ↔ (∃ y, y < c ∧ xT9 G0 ln tp 72 y ≠ 0) ∨ ¬ x = 0 := by
    constructor
    · rintro ⟨y, y1, y2⟩
      by_cases cy : y = c
      · right
        rw [cy, hx] at y2
        omega
      · exact .inl ⟨y, by omega, y2⟩
    · rintro (⟨y, y1, y2⟩ | q)
      · exact ⟨y, by omega, y2⟩
      · exact ⟨c, by omega, by rw [hx]; omega⟩
  unfold isB at h ⊢
  rw [hiff]
  by_cases cx : x = 0
  · rw [if_pos cx]
    rcases h with ⟨h1, h2⟩ | ⟨h1, h2⟩
    · rw [h1, x3]; exact .inl ⟨rfl, .inl h2⟩
    · rw [h1, x1]; exact .inr ⟨rfl, fun z => z.elim h2 (fun w => w cx)⟩
  · rw [if_neg cx]
    rcases h with ⟨h1, h2⟩ | ⟨h1, h2⟩
    · rw [h1, x4]; exact .inl ⟨rfl, .inl h2⟩
    · rw [h1, x2]; exact .inl ⟨rfl, .inr cx⟩
theorem k_99l (hE : sE9 S0 G0 A ah be ln tp) : ∀ (d c fu : Nat) (S : Nat → Nat × Nat × Nat) (G : xG_) (m : Nat × Nat) (n : Nat) (u : Int), c + d = 72 → d < fu → sI9 S0 G0 A sl be ln tp c S G m n u → ∃ fu' S' G' m' n' u', 0 < fu' ∧ c99_27 f fu 216 ah be ln ch u (c : Int) (S, G, m) = c99_27 f fu' 216 ah be ln ch u' ((72 : Nat) : Int) (S', G', m') ∧ sI9 S0 G0 A sl be ln tp 72 S' G' m' n' u' := by
  obtain ⟨⟨hb, ha, hl8, htp⟩, ⟨sb, sa, ga, st⟩, ⟨n1, n2, n3, n4, n5⟩, ⟨l0, l7, l8, g12, g13⟩, hlt, hto⟩ := hE
  intro d
  induction d with
  | zero =>
    intro c fu S G m n u e1 e2 h
    have : c = 72 := by omega
    rw [this] at h ⊢
    exact ⟨fu, S, G, m, n, u, by omega, rfl, h⟩
  | succ d ih =>
    intro c fu S G m n u e1 e2 h
    obtain ⟨fu, rfl⟩ : ∃ t, fu = t + 1 := ⟨fu - 1, by omega⟩
    obtain ⟨hS, hG, ⟨h5, hn, hnc⟩, hc, hu⟩ := h
    have hc72 : c < 72 := by omega
    have sb' : S be = (1, 2, 8) := by rw [hS _ hb]; exact sb
    have l0' : S ln = (1, 1, 14) := by rw [hS _ (by omega)]; exact l0
    have l7' : S (ln + 7) = (2, 0, 72) := by rw [hS _ (by omega)]; exact l7
    have l8' : S (ln + 8) = (2, 5, 72) := by rw [hS _ (by omega)]; exact l8
    have g12' : G ln 12 = ((ln + 7 : Nat) : Int) := by rw [hG _ _ (by omega) (by omega)]; exact g12
    have g13' : G ln 13 = ((ln + 8 : Nat) : Int) := by rw [hG _ _ (by omega) (by omega)]; exact g13
    have lt7 : ln + 7 < A := Nat.lt_of_le_of_lt (Nat.add_le_add_left (by decide) _) hl8
    have t7 : G (ln + 7) c = G0 (ln + 7) c := hG _ _ lt7 (fun z => n4 z.1.symm)
    have t8 : G (ln + 8) c = G0 (ln + 8) c := hG _ _ hl8 (fun z => n5 z.1.symm)
    have xc : xT9 G0 ln tp 72 c = if ¬ G0 (ln + 7) c = 0 then G0 (ln + 8) c else G0 tp c := by
      unfold xT9
      by_cases q : G0 (ln + 7) c = 0
      · rw [if_neg (fun z => z.2 q), if_neg (fun z => z q)]
      · rw [if_pos ⟨hc72, q⟩, if_pos q]
    have xn : ∀ y, y ≠ c → xT9 G0 ln tp (c + 1) y = xT9 G0 ln tp c y := fun y z => by
      unfold xT9
      by_cases q : y < c ∧ ¬ G0 (ln + 7) y = 0
      · rw [if_pos q, if_pos ⟨by omega, q.2⟩]
      · rw [if_neg q, if_neg (fun w => q ⟨by omega, w.2⟩)]
    have xcc : xT9 G0 ln tp (c + 1) c = xT9 G0 ln tp 72 c := by
      rw [xc]
      unfold xT9
      by_cases q : G0 (ln + 7) c = 0
      · rw [if_neg (fun z => z.2 q), if_neg (fun z => z q)]
      · rw [if_pos ⟨by omega, q⟩, if_pos q]
    by_cases q0 : G0 (ln + 7) c = 0
    · -- not told
      have e0 := sw_99n (f := f) (fu := fu) (ah := ah) (be := be) (ch := ch) (u := u) (m := m) l0' g12' l7' hc72 (by rw [t7]; exact q0)
      rw [if_neg (fun z => z q0)] at xc
      obtain ⟨x, hx⟩ := hto c hc72
      rw [hx] at xc
      have xs : xT9 G0 ln tp (c + 1) c = xT9 G0 ln tp c c := by
        unfold xT9
        rw [if_neg (fun z => z.2 q0), if_neg (fun z => z.2 q0)]
      rcases hc with ⟨c1, c2, c3, c4, c5⟩ | ⟨c1, c2, c3, c4, c5, c6⟩
      · have e1' := sw_99u (f := f) (ah := ah) (ln := ln) (ch := ch) (u := u) (m := m) (r27 := c99_27 f fu) sb' c2 (by rw [c4]; exact st) hc72 (by rw [hG _ _ htp (by omega)]; exact hx)
        obtain ⟨fu', S', G', m', n', u', i1, i2, i3⟩ := ih (c + 1) fu S G m n _ (by omega) (by omega) ⟨hS, hG, ⟨h5, by omega, by show n = tC9 G0 ln c + _; rw [if_pos q0]; exact hnc⟩, .inl ⟨c1, c2, c3, c4, fun y hy => by
          by_cases cy : y = c
          · rw [cy]; exact q0
          · exact c5 y (by omega)⟩, u_nx hu xc⟩
        exact ⟨fu', S', G', m', n', u', i1, (e0.trans e1').trans i2, i3⟩
      · have e1' := sw_99u (f := f) (ah := ah) (ln := ln) (ch := ch) (u := u) (m := m) (r27 := c99_27 f fu) sb' c2 c3 hc72 (by rw [c5 c hc72, ← xs, xcc]; exact xc)
        obtain ⟨fu', S', G', m', n', u', i1, i2, i3⟩ := ih (c + 1) fu S G m n _ (by omega) (by omega) ⟨hS, hG, ⟨h5, by omega, by show n = tC9 G0 ln c + _; rw [if_pos q0]; exact hnc⟩, .inr ⟨c1, c2, c3, c4, fun y hy => by
          by_cases cy : y = c
          · rw [cy, xs]; exact c5 c hc72
          · rw [xn y cy]; exact c5 y hy, by
          obtain ⟨y, y1, y2⟩ := c6
          exact ⟨y, by omega, y2⟩⟩, u_nx hu xc⟩
        exact ⟨fu', S', G', m', n', u', i1, (e0.trans e1').trans i2, i3⟩
    · -- told
      rw [if_pos q0] at xc
      obtain ⟨o, ho1, ho2⟩ := hlt c hc72
      rw [ho1] at xc
      have q0' : ¬ G (ln + 7) c = 0 := by rw [t7]; exact q0
      rcases hc with ⟨c1, c2, c3, c4, c5⟩ | ⟨c1, c2, c3, c4, c5, c6⟩
      · subst c3 c4
        rw [c1] at h5
        have e0 := sw_99f (f := f) (fu := fu) (ah := ah) (be := be) (ln := ln) (ch := ch) (u := u) (A := A) (sl := sl) sb' l0' g12' l7' hc72 q0' h5 sa (by rw [hG _ _ ha (by omega)]; exact ga) st (by omega)
        have z1 : ∀ a j, a < A → ¬ (a = be ∧ j = 2) → xup2 (xz1 G A (G tp)) be 2 (A : Int) a j = G a j := fun a j y1 y2 => by rw [xup2_n y2, xz1_n _ (by omega)]
        have zA : ∀ j, xup2 (xz1 G A (G tp)) be 2 (A : Int) A j = G tp j := fun j => by rw [xup2_n (by omega), xz1_s]
        have sA : ∀ a, a < A → xup1 S A (2, 5, 72) a = S a := fun a ha => xup1_n (by omega)
        have e1' := sw_99p (f := f) (ah := ah) (be := be) (ln := ln) (ch := ch) (u := u) (m := (A + 1, sl + 72)) (S := xup1 S A (2, 5, 72)) (G := xup2 (xz1 G A (G tp)) be 2 (A : Int)) (tb := A) (n := 0) (o := o) (r27 := c99_27 f fu) (by rw [sA _ hb]; exact sb') (xup2_s _ _ _ _) (xup1_s _ _ _) hc72 (by rw [sA _ (by omega)]; exact l0') (by rw [z1 _ _ (by omega) (by omega)]; exact g13') (by rw [sA _ (by omega)]; exact l8') (by rw [z1 _ _ (by omega) (by omega), t8]; exact ho1) (by
          rcases ho2 with w | ⟨w1, w2⟩
          · exact .inl w
          · right; rw [sA _ w2]; exact w1) (by rw [z1 _ _ hb (by omega)]; exact h5) (by omega) (by omega)
        have z2 : ∀ a j, ¬ (a = A ∧ j = c) → ¬ (a = be ∧ j = 5) → xup2 (xup2 (xup2 (xz1 G A (G tp)) be 2 (A : Int)) A c (o : Int)) be 5 ((0 + 1 : Nat) : Int) a j = xup2 (xz1 G A (G tp)) be 2 (A : Int) a j := fun a j y1 y2 => by rw [xup2_n y2, xup2_n y1]
        have zc : xup2 (xup2 (xup2 (xz1 G A (G tp)) be 2 (A : Int)) A c (o : Int)) be 5 ((0 + 1 : Nat) : Int) A c = (o : Int) := by rw [xup2_n (by omega), xup2_s]
        have b2' : xup2 (xup2 (xup2 (xz1 G A (G tp)) be 2 (A : Int)) A c (o : Int)) be 5 ((0 + 1 : Nat) : Int) be 2 = (A : Int) := by rw [z2 _ _ (by omega) (by omega), xup2_s]
        have e2' := sw_99u (f := f) (ah := ah) (ln := ln) (ch := ch) (u := u) (m := (A + 1, sl + 72)) (x := o) (r27 := c99_27 f fu) (S := xup1 S A (2, 5, 72)) (by rw [sA _ hb]; exact sb') b2' (xup1_s _ _ _) hc72 zc
        obtain ⟨fu', S', G', m', n', u', i1, i2, i3⟩ := ih (c + 1) fu _ _ _ 1 _ (by omega) (by omega) ⟨fun a ha => sA a ha, fun a j y1 y2 => by rw [z2 _ _ (by omega) (by omega), z1 _ _ y1 (by omega)]; exact hG a j y1 y2, ⟨xup2_s _ _ _ _, by omega, by show 1 = tC9 G0 ln c + _; rw [if_neg q0, ← hnc, c1]⟩, .inr ⟨by decide, b2', xup1_s _ _ _, rfl, fun y hy => by
          by_cases cy : y = c
          · rw [cy, zc, xcc]; exact xc.symm
          · rw [z2 _ _ (by omega) (by omega), zA, xn y cy]
            unfold xT9
            rw [if_neg (fun w => w.2 (c5 y w.1)), hG _ _ htp (by omega)], ⟨c, by omega, q0⟩⟩, u_nx hu xc⟩
        exact ⟨fu', S', G', m', n', u', i1, ((e0.trans e1').trans e2').trans i2, i3⟩
      · have e0 := sw_99y (f := f) (fu := fu) (ah := ah) (be := be) (ln := ln) (ch := ch) (u := u) (m := m) sb' l0' g12' l7' hc72 q0' h5 c1
        have e1' := sw_99p (f := f) (ah := ah) (be := be) (ln := ln) (ch := ch) (u := u) (m := m) (tb := A) (o := o) (r27 := c99_27 f fu) sb' c2 c3 hc72 l0' g13' l8' (by rw [t8]; exact ho1) (by
          rcases ho2 with w | ⟨w1, w2⟩
          · exact .inl w
          · right; rw [hS _ w2]; exact w1) h5 (by omega) (by omega)
        have z2 : ∀ a j, ¬ (a = A ∧ j = c) → ¬ (a = be ∧ j = 5) → xup2 (xup2 G A c (o : Int)) be 5 ((n + 1 : Nat) : Int) a j = G a j := fun a j y1 y2 => by rw [xup2_n y2, xup2_n y1]
        have zc : xup2 (xup2 G A c (o : Int)) be 5 ((n + 1 : Nat) : Int) A c = (o : Int) := by rw [xup2_n (by omega), xup2_s]
        have b2' : xup2 (xup2 G A c (o : Int)) be 5 ((n + 1 : Nat) : Int) be 2 = (A : Int) := by rw [z2 _ _ (by omega) (by omega)]; exact c2
        have e2' := sw_99u (f := f) (ah := ah) (ln := ln) (ch := ch) (u := u) (m := m) (x := o) (r27 := c99_27 f fu) sb' b2' c3 hc72 zc
        obtain ⟨fu', S', G', m', n', u', i1, i2, i3⟩ := ih (c + 1) fu S _ m (n + 1) _ (by omega) (by omega) ⟨hS, fun a j y1 y2 => by rw [z2 _ _ (by omega) (by omega)]; exact hG a j y1 y2, ⟨xup2_s _ _ _ _, by omega, by show n + 1 = tC9 G0 ln c + _; rw [if_neg q0, ← hnc]⟩, .inr ⟨by omega, b2', c3, c4, fun y hy => by
          by_cases cy : y = c
          · rw [cy, zc, xcc]; exact xc.symm
          · rw [z2 _ _ (by omega) (by omega), xn y cy]; exact c5 y hy, ⟨c, by omega, q0⟩⟩, u_nx hu xc⟩
        exact ⟨fu', S', G', m', n', u', i1, ((e0.trans e1').trans e2').trans i2, i3⟩
end
