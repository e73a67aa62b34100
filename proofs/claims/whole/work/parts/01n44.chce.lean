section
/-! THE CLASS: cell() in the house -/
section
variable {f A A' hr n sl ln : Nat} {S S' : Nat → Nat × Nat × Nat} {G G' : xG_} {m : Nat × Nat} {T : List (List Int)} {P P' : Nat → Nat} {l : sLn} {lns : Nat → sLn} {tx t : List Int} {kp : Nat × List (List Int)} {mt : Int × List Int} {pl rf : Int}
/-- the text that a CELL is told -/
theorem cCt.up {W : Nat → Int} {x o : Nat} {w : Int} {e : List pNd × Int} (h : cCt T S G A ln W) (hl : 242 < ln ∧ ln + 8 < 279) (hA : A ≤ A') (h5 : 555 < A) (hS : ∀ a, a < A → S' a = S a) (hG : xSf A G G') (h7 : ∀ c, G' (ln + 7) c = if c = x then 1 else G (ln + 7) c) (h8 : ∀ c, G' (ln + 8) c = if c = x then (o : Int) else G (ln + 8) c) (hw : w ≠ -1) (ho : o = 0 ∧ xOf T (fun _ => w.toNat) x = none ∨ o = A ∧ A + 2 < A' ∧ xOf T (fun _ => w.toNat) x = some e ∧ cFm S' G' o e) : cCt T S' G' A' ln (fun c => if c = x then w else W c) := by
  obtain ⟨lt, h⟩ := h
  refine ⟨fun c => if c = x then o else lt c, fun c hc => ?_⟩
  obtain ⟨a1, a2, a3⟩ := h c hc
  by_cases q : c = x
  · rw [h7, h8, if_pos q, if_pos q]
    refine ⟨⟨fun z => absurd z (by decide), fun z => ?_⟩, by show (o : Int) = (((if c = x then o else lt c) : Nat) : Int); rw [if_pos q], ?_⟩
    · have z' : (if c = x then w else W c) = -1 := z
      rw [if_pos q] at z'
      exact absurd z' hw
    · have e1 : xOf T (fun c => ((fun c => if c = x then w else W c) c).toNat) c = xOf T (fun _ => w.toNat) x := by
        rw [q]
        exact xOf_1 (by show (if x = x then w else W x).toNat = w.toNat; rw [if_pos rfl])
      rw [e1]
      show ((if c = x then o else lt c) = 0 ∧ _ ∨ 555 < (if c = x then o else lt c) ∧ (if c = x then o else lt c) + 2 < A' ∧ ∃ e, _ ∧ cFm S' G' (if c = x then o else lt c) e)
      rw [if_pos q]
      rcases ho with z | ⟨z1, z2, z3, z4⟩
      · exact .inl z
      · exact .inr ⟨by omega, by omega, e, z3, z4⟩
  · rw [h7, h8, if_neg q, if_neg q]
    have e1 : xOf T (fun c => ((fun c => if c = x then w else W c) c).toNat) c = xOf T (fun c => (W c).toNat) c := xOf_1 (by show (if c = x then w else W c).toNat = (W c).toNat; rw [if_neg q])
    have e2 : (fun c => if c = x then w else W c) c = W c := if_neg q
    rw [e1, e2]
    show _ ∧ _ = (((if c = x then o else lt c) : Nat) : Int) ∧ ((if c = x then o else lt c) = 0 ∧ _ ∨ 555 < (if c = x then o else lt c) ∧ (if c = x then o else lt c) + 2 < A' ∧ ∃ e, _ ∧ cFm S' G' (if c = x then o else lt c) e)
    rw [if_neg q]
    refine ⟨a1, a2, ?_⟩
    rcases a3 with z | ⟨z1, z2, e, z3, z4⟩
    · exact .inl z
    · exact .inr ⟨z1, by omega, e, z3, z4.ge (fun a y1 y2 => hS a (by omega)) (fun a j y1 y2 => hG a j (by omega) (by omega))⟩
/-- cell() -/
theorem k_ce {v : Int} {T' : List (List Int)} {lns' : Nat → sLn} (hf : 3100 < f) (h : cHs S G A (T, lns, hr, tx, kp, mt, pl, rf) n) (hW : ∀ y, y < 4 → ceOk T (lns y).2.2.2.1.2.2) (hst : stCe T lns hr tx v T' lns') : ∃ S' G' m', c1002 f 64 (S, G, (A, sl)) = some (v, (S', G', m')) ∧ (A ≤ m'.1 ∧ m'.1 ≤ A + 3 ∧ m'.2 ≤ sl + 129) ∧ (∀ a, a < A → S' a = S a) ∧ cHs S' G' m'.1 (T', lns', hr, [], kp, mt, pl, rf) (n + 1) := by
  obtain ⟨⟨a1, a2, a3, a4⟩, ⟨P, b1, b2, b3⟩, ⟨c1, c2⟩, ⟨c3, c4⟩, c5, c6, c7, c8, c9⟩ := h
  obtain ⟨v', S', G', m', k1, k2, k3, k4, k5, k6, k7, k8, k9⟩ := k_1002 (f := f) (A := A) (sl := sl) a1 a2 c7 (by omega) c2 c1 hf
  have s1 : cSs S' := fun k hk => by rw [k2 _ (by omega)]; exact a1 k hk
  have g : ∀ a j, a < A → (a = 64 ∨ 82 < a) → a ≠ 243 + 9 * hr + 7 → a ≠ 243 + 9 * hr + 8 → G' a j = G a j := fun a j y1 y2 y3 y4 => k8 a j y1 (by omega) y3 y4
  have sf : xSf A G G' := fun a j y1 y2 => g a j y1 (by omega) (by omega) (by omega)
  have pE : cEd T S' G' m'.1 P := b1.ge k3 k2 sf (by rw [g _ _ (by omega) (by omega) (by omega) (by omega)]; exact Int.le_refl _)
  have pEe := b3.ge k3 k2 sf ⟨g _ _ (by omega) (by omega) (by omega) (by omega), g _ _ (by omega) (by omega) (by omega) (by omega)⟩
  have pLo : ∀ y, y < 4 → y ≠ hr → cLn T S' G' m'.1 P (243 + 9 * y) (lns y) := fun y hy d => (b2 y hy).ge k3 k2 sf (fun a j y1 y2 => g a j (by omega) (by omega) (by omega) (by omega))
  -- what else stands
  have rest : ∀ (T' : List (List Int)) (lns' : Nat → sLn) (P' : Nat → Nat), cEd T' S' G' m'.1 P' → (∀ y, y < 4 → cLn T' S' G' m'.1 P' (243 + 9 * y) (lns' y)) → cEe T' S' G' m'.1 P' (lns' hr) → cHs S' G' m'.1 (T', lns', hr, [], kp, mt, pl, rf) (n + 1) := fun T' lns' P' q1 q2 q3 => ⟨⟨s1, k6, a3.ge (fun a j y1 y2 => g a j (by omega) (by omega) (by omega) (by omega)), by omega⟩, ⟨P', q1, q2, q3⟩, ⟨c1, by rw [g _ _ (by omega) (by omega) (by omega) (by omega)]; exact c2⟩, ⟨by rw [g _ _ (by omega) (by omega) (by omega) (by omega)]; exact c3, by rw [g _ _ (by omega) (by omega) (by omega) (by omega)]; omega⟩, by rw [g _ _ (by omega) (by omega) (by omega) (by omega)]; exact c5, by rw [g _ _ (by omega) (by omega) (by omega) (by omega)]; exact c6, cTx.nil k7, c8.ge (fun a y => k2 a (by omega)) (fun a j y1 y2 => g a j (by omega) (by omega) (by omega) (by omega)) ⟨g _ _ (by omega) (by omega) (by omega) (by omega), g _ _ (by omega) (by omega) (by omega) (by omega)⟩, c9.ge ⟨g _ _ (by omega) (by omega) (by omega) (by omega), g _ _ (by omega) (by omega) (by omega) (by omega)⟩ (fun j => g _ _ (by omega) (by omega) (by omega) (by omega))⟩
  obtain ⟨Yr, ⟨Yw, Yc⟩, Ye, ⟨sp, Yp1, Yp2⟩, Yt, Y3, Y4⟩ := id (b2 hr c1)
  obtain ⟨s0, M0, hm⟩ := (b2 hr c1).mo
  have hT : 0 < T.length := Nat.lt_of_le_of_lt (Nat.zero_le _) hm.1
  have zy : ∀ a j, 243 + 9 * hr ≤ a → a ≤ 243 + 9 * hr + 6 → G' a j = G a j := fun a j y1 y2 => g a j (by omega) (by omega) (by omega) (by omega)
  have Yr' := Yr.ge k3 k2 sf ⟨zy _ _ (by omega) (by omega), zy _ _ (by omega) (by omega), fun j _ _ => zy _ _ (by omega) (by omega)⟩
  have Yp' : cPn G' (243 + 9 * hr) sp (lns hr).2.2.2.1.1 := Yp2.ge (fun a j y1 y2 => zy a j (by omega) (by omega))
  -- the line with another row of texts
  have pLn : ∀ W, cCt T S' G' m'.1 (243 + 9 * hr) W → cLn T S' G' m'.1 P (243 + 9 * hr) (lnD (lns hr) (lns hr).2.2.2.1.1 (lns hr).2.2.2.1.2.1 W) := fun W q => ⟨Yr', ⟨fun p hp => by rw [zy _ _ (by omega) (by omega)]; exact Yw p hp, fun c hc => by rw [zy _ _ (by omega) (by omega)]; exact Yc c hc⟩, by rw [zy _ _ (by omega) (by omega)]; exact Ye, ⟨sp, Yp1, Yp'⟩, q, by rw [zy _ _ (by omega) (by omega)]; exact Y3, fun hne => by rw [zy _ _ (by omega) (by omega)]; exact Y4 hne⟩
  unfold stCe at hst
  cases hq : qCt tx with
  | inl w =>
    rw [hq] at hst k9
    obtain ⟨e1, e2, e3⟩ := hst
    obtain ⟨u1, u2⟩ := k9
    rw [e1, e2, e3, ← u1]
    exact ⟨S', G', m', k1, ⟨k3, k4, k5⟩, k2, rest T lns P pE (fun y hy => (b2 y hy).ge k3 k2 sf (fun a j y1 y2 => by
      by_cases d1 : a = 243 + 9 * hr + 7
      · rw [d1]; exact (u2 j).1
      · by_cases d2 : a = 243 + 9 * hr + 8
        · rw [d2]; exact (u2 j).2
        · exact g a j (by omega) (by omega) d1 d2)) pEe⟩
  | inr r =>
    rw [hq] at hst k9
    obtain ⟨e1, e2⟩ := hst
    obtain ⟨u1, u2, o, u3, u4⟩ := k9
    rw [e1, ← u1]
    rcases e2 with ⟨q1, q2, q3⟩ | ⟨q1, q2, q3⟩
    · rw [q2, q3]
      rcases u3 with ⟨_, w1⟩ | ⟨w0, _⟩
      · have ct := Yt.up (S' := S') (x := r.1.toNat) (o := o) (w := 0) (e := ([], 0)) (by omega) k3 a4 k2 sf (fun c => (u4 c).1) (fun c => (u4 c).2) (by decide) (.inl ⟨w1, rfl⟩)
        refine ⟨S', G', m', k1, ⟨k3, k4, k5⟩, k2, rest T _ P pE (fun y hy => ?_) ?_⟩
        · unfold lUp
          by_cases d : y = hr
          · subst d
            rw [if_pos rfl]
            exact pLn _ ct
          · rw [if_neg d]; exact pLo y hy d
        · unfold lUp
          rw [if_pos rfl]
          exact pEe
      · exact absurd q1 w0
    · rw [q2, q3]
      rcases u3 with ⟨w0, _⟩ | ⟨_, w1, w2, w3⟩
      · exact absurd w0 q1
      · have gl : (T ++ [tx]).getD T.length [] = tx := by
          have := getD_apr (l := T) (d := []) [tx] 0
          rw [Nat.add_zero] at this
          exact this
        have gl2 : (T ++ [tx]).length = T.length + 1 := by rw [List.length_append]; rfl
        have hWl : ∀ c, c < 72 → ((lns hr).2.2.2.1.2.2 c).toNat < T.length := fun c hc => by
          rcases hW hr c1 c with z | z
          · rw [z]; exact hT
          · exact z.2.1
        have ct := (Yt.app tx hWl).up (S' := S') (x := r.1.toNat) (o := o) (w := (T.length : Int)) (e := r.2) (by omega) k3 a4 k2 sf (fun c => (u4 c).1) (fun c => (u4 c).2) (by omega) (.inr ⟨w1, w2, by
          unfold xOf
          have e : (fun _ : Nat => ((T.length : Int)).toNat) r.1.toNat = T.length := Int.toNat_natCast _
          rw [e, if_neg (Nat.pos_iff_ne_zero.mp hT), gl, hq], w3⟩)
        have qE : cEd (T ++ [tx]) S' G' m'.1 P := ⟨fun e he => by
          obtain ⟨x1, x2, x3⟩ := pE.1 e he
          exact ⟨by omega, x2.app tx x1, x3⟩, pE.2⟩
        have lE : lnE (lns hr) < T.length := by
          unfold lnE
          rcases Ye with ⟨e, _⟩ | ⟨e1, e2, _⟩
          · rw [if_pos e]; exact hm.1
          · rw [if_neg (by omega)]; exact (b1.1 _ e2).1
        refine ⟨S', G', m', k1, ⟨k3, k4, k5⟩, k2, rest (T ++ [tx]) _ P qE (fun y hy => ?_) ?_⟩
        · unfold lUp
          by_cases d : y = hr
          · subst d
            rw [if_pos rfl]
            exact ⟨Yr'.app tx (fun _ _ => rfl), ⟨fun p hp => by rw [zy _ _ (by omega) (by omega)]; exact Yw p hp, fun c hc => by rw [zy _ _ (by omega) (by omega)]; exact Yc c hc⟩, by rw [zy _ _ (by omega) (by omega)]; exact Ye, ⟨sp, by rw [getD_app _ (by exact lE)]; exact Yp1, Yp'⟩, ct, by rw [zy _ _ (by omega) (by omega)]; exact Y3, fun hne => by rw [zy _ _ (by omega) (by omega)]; exact Y4 hne⟩
          · rw [if_neg d]; exact (pLo y hy d).app tx pE (hW y hy) (fun _ _ => rfl)
        · unfold lUp
          rw [if_pos rfl]
          exact pEe.app tx (fun _ _ => rfl)
end
end
section
/-! THE CLASS: addChange(), change() in the house -/
section
variable {f A A' hr n sl ln c : Nat} {S S' : Nat → Nat × Nat × Nat} {G G' : xG_} {m : Nat × Nat} {T : List (List Int)} {P : Nat → Nat} {lns : Nat → sLn} {tx : List Int} {kp : Nat × List (List Int)} {mt : Int × List Int} {pl rf : Int} {s : pPg} {E : List pPe} {e : pPe}
/-- a CHANGE comes to the c-th place: nothing else changes -/
def xAc (ln c : Nat) (G G' : xG_) : Prop := ∀ a j, ¬ (a = ln ∧ j = 8) → ¬ (a = ln + 4 ∧ j = c) → ¬ (a = ln + 5 ∧ j = c) → ¬ (a = ln + 6 ∧ 4 * c ≤ j ∧ j < 4 * c + 4) → G' a j = G a j
theorem st_ac {vp fm w Lv : Nat} {p ad : Int} (ls : lnSt S ln) (lp : lnPt G ln) (h8 : G ln 8 = (c : Int)) (hc : c < 400) (hv : S vp = (2, 4, Lv)) (hw : fm + w ≤ Lv) (hL : Lv ≤ 100000) (hw4 : w ≤ 4) (had : ad = 0 ∨ ad = 1) : ∃ G1, c8 f ln p ad vp (fm : Int) (w : Int) (S, G, m) = some (S, xup2 (xz1 G1 (ln + 6) (fun i => if 4 * c ≤ i ∧ i < 4 * c + w then G1 vp (fm + (i - 4 * c)) else G1 (ln + 6) i)) ln 8 ((c + 1 : Nat) : Int), m) ∧ G1 = xup2 (xup2 G (ln + 4) c p) (ln + 5) c ad := by
  obtain ⟨l0, _, _, _, l4, l5, l6, _⟩ := ls
  obtain ⟨_, _, _, p4, p5, p6, _⟩ := lp
  refine ⟨_, ?_, rfl⟩
  have e1 : cq_s 3 (ln + 4) (c : Int) p (S, G, m) = some (S, xup2 G (ln + 4) c p, m) := by
    unfold cq_s
    simp only [l4]
    rw [if_pos ⟨trivial, trivial, by omega, by omega⟩, Int.toNat_natCast]
  have enar : xnar .boolean ad = ad := by
    rcases had with rfl | rfl <;> rfl
  have e2 : cq_sb (ln + 5) (c : Int) ad (S, xup2 G (ln + 4) c p, m) = some (S, xup2 (xup2 G (ln + 4) c p) (ln + 5) c ad, m) := by
    unfold cq_sb cq_s
    simp only [l5]
    rw [if_neg (by decide), if_pos trivial, if_pos ⟨trivial, trivial, by omega, by omega⟩, Int.toNat_natCast, enar]
  have g8 : xup2 G (ln + 4) c p ln 8 = (c : Int) := by rw [xup2_n (by omega)]; exact h8
  have g8' : xup2 (xup2 G (ln + 4) c p) (ln + 5) c ad ln 8 = (c : Int) := by rw [xup2_n (by omega)]; exact g8
  have w4 : xwr (4 * (c : Int)) = ((4 * c : Nat) : Int) := by rw [xwr_g _ (by omega) (by omega)]; omega
  have e3 : cq_cp vp (fm : Int) (ln + 6) ((4 * c : Nat) : Int) (w : Int) (S, xup2 (xup2 G (ln + 4) c p) (ln + 5) c ad, m) = some (S, xz1 (xup2 (xup2 G (ln + 4) c p) (ln + 5) c ad) (ln + 6) (fun i => if 4 * c ≤ i ∧ i < 4 * c + w then (xup2 (xup2 G (ln + 4) c p) (ln + 5) c ad) vp (fm + (i - 4 * c)) else (xup2 (xup2 G (ln + 4) c p) (ln + 5) c ad) (ln + 6) i), m) := by
    unfold cq_cp
    simp only [hv, l6, Int.toNat_natCast]
    rw [if_pos ⟨trivial, trivial, trivial, .inr trivial, by omega, by omega, by omega, by omega, by omega⟩]
  have e8 : ∀ F : Nat → Int, xz1 (xup2 (xup2 G (ln + 4) c p) (ln + 5) c ad) (ln + 6) F ln 8 = (c : Int) := fun F => by rw [xz1_n _ (by omega)]; exact g8'
  unfold c8 c8_58
  rw [o_gi l0, Option.bind_some, h8, if_neg (by omega), o_gr l0 p4, Option.bind_some, Option.bind_some, e1, Option.bind_some, o_gr (y := ln + 5) l0 (by rw [xup2_n (by omega)]; exact p5), Option.bind_some, o_gi l0, Option.bind_some, g8, e2, Option.bind_some, o_gr (y := ln + 6) l0 (by rw [xup2_n (by omega), xup2_n (by omega)]; exact p6), Option.bind_some, o_gi l0, Option.bind_some, g8', w4, e3, Option.bind_some, o_gi l0, Option.bind_some, e8, xwr_g _ (by omega) (by omega), o_p l0, Option.bind_some]
  rfl
theorem k_8 {vp fm w Lv : Nat} {p ad : Int} (ls : lnSt S ln) (lp : lnPt G ln) (h8 : G ln 8 = (c : Int)) (hc : c < 400) (hv : S vp = (2, 4, Lv)) (hw : fm + w ≤ Lv) (hL : Lv ≤ 100000) (hw4 : w ≤ 4) (had : ad = 0 ∨ ad = 1) (hvn : vp < ln ∨ ln + 8 < vp) : ∃ G', c8 f ln p ad vp (fm : Int) (w : Int) (S, G, m) = some (S, G', m) ∧ xAc ln c G G' ∧ G' ln 8 = ((c + 1 : Nat) : Int) ∧ G' (ln + 4) c = p ∧ G' (ln + 5) c = ad ∧ ∀ j, j < w → G' (ln + 6) (4 * c + j) = G vp (fm + j) := by
  obtain ⟨G1, e1, e2⟩ := st_ac (f := f) (m := m) (p := p) ls lp h8 hc hv hw hL hw4 had
  have z1 : ∀ a j, ¬ (a = ln + 4 ∧ j = c) → ¬ (a = ln + 5 ∧ j = c) → G1 a j = G a j := fun a j y1 y2 => by rw [e2, xup2_n y2, xup2_n y1]
  refine ⟨_, e1, fun a j y1 y2 y3 y4 => ?_, xup2_s _ _ _ _, ?_, ?_, fun j hj => ?_⟩
  · rw [xup2_n y1]
    by_cases q : a = ln + 6
    · rw [q, xz1_s]
      show (if 4 * c ≤ j ∧ j < 4 * c + w then _ else _) = _
      rw [if_neg (by omega), z1 _ _ (by omega) (by omega)]
    · rw [xz1_n _ q, z1 a j y2 y3]
  · rw [xup2_n (by omega), xz1_n _ (by omega), e2, xup2_n (by omega), xup2_s]
  · rw [xup2_n (by omega), xz1_n _ (by omega), e2, xup2_s]
  · rw [xup2_n (by omega), xz1_s]
    show (if 4 * c ≤ 4 * c + j ∧ 4 * c + j < 4 * c + w then _ else _) = _
    rw [if_pos (by omega), z1 _ _ (by omega) (by omega)]
    congr 1
    omega
theorem cPn.add (h : cPn G ln s E) (hE : E.length < 400) (hx : xAc ln E.length G G') (h8 : G' ln 8 = ((E.length + 1 : Nat) : Int)) (h4 : (∃ p : Nat, p < s.1.length ∧ chT s e p ∧ G' (ln + 4) E.length = (p : Int)) ∨ ((∀ p, p < s.1.length → ¬ chT s e p) ∧ G' (ln + 4) E.length = -1)) (h5 : G' (ln + 5) E.length = (if e.1 < 0 then 0 else 1)) (h6 : ∀ c, c < e.2.2.length → G' (ln + 6) (4 * E.length + c) = e.2.2.getD c 0) (hl : ∀ i, i < E.length → (E.getD i dPe).2.2.length ≤ 4) : cPn G' ln s (E ++ [e]) := by
  obtain ⟨a1, a2, a3⟩ := h
  have len : (E ++ [e]).length = E.length + 1 := by rw [List.length_append]; rfl
  refine ⟨by rw [len]; exact h8, by omega, fun i hi => ?_⟩
  rcases (by omega : i < E.length ∨ i = E.length) with q | q
  · obtain ⟨b1, b2, b3⟩ := a3 i q
    have l4 := hl i q
    rw [getD_app _ q, hx _ _ (by omega) (by omega) (by omega) (by omega), hx _ _ (by omega) (by omega) (by omega) (by omega)]
    exact ⟨b1, b2, fun c hc => by rw [hx _ _ (by omega) (by omega) (by omega) (by omega)]; exact b3 c hc⟩
  · have ge : (E ++ [e]).getD i dPe = e := by
      have := getD_apr (l := E) (d := dPe) [e] 0
      rw [Nat.add_zero] at this
      rw [q]
      exact this
    rw [ge, q]
    exact ⟨h4, h5, h6⟩
theorem xAc.li (h : xAc ln c G G') : ∀ a j, ¬ (a = ln ∧ j = 8) → ¬ (ln + 4 ≤ a ∧ a ≤ ln + 6) → G' a j = G a j := fun a j y1 y2 => h a j y1 (by omega) (by omega) (by omega)
theorem cCs.ge {L : List Int} {cs : List pCh} (h : cCs G L cs) (hz : ∀ a j, 72 ≤ a → a ≤ 82 → G' a j = G a j) : cCs G' L cs := by
  refine ⟨by rw [hz _ _ (by omega) (by omega)]; exact h.1, fun k hk => ?_⟩
  obtain ⟨a1, a2, a3, a4, a5, a6⟩ := h.2 k hk
  exact ⟨by rw [hz _ _ (by omega) (by omega)]; exact a1, by rw [hz _ _ (by omega) (by omega)]; exact a2, by rw [hz _ _ (by omega) (by omega)]; exact a3, by rw [hz _ _ (by omega) (by omega)]; exact a4, a5, fun j hj => by rw [hz _ _ (by omega) (by omega)]; exact a6 j hj⟩
/-- a CHANGE without FAULT tells of an INPUT -/
theorem chT_of {ch : pCh} (hok : qOk s) (h : qCq s ch = 0) : ∃ p : Nat, p < s.1.length ∧ pIdx s.1 ch.2.1 = (p : Int) ∧ chT s (qPe ch) p := by
  unfold qCq qCf at h
  rcases pIdx_get (x := ch.2.1) hok.1.2.1 with ⟨z, _⟩ | ⟨p, p1, p2, p3, _⟩
  · rw [z, if_pos rfl] at h
    exact absurd h (by decide)
  · rw [p2, if_neg (by omega)] at h
    by_cases q : pIn s.2.1 (p : Int) = true
    · rw [if_pos q] at h
      by_cases q2 : pNn s.2.2.2.1 (p : Int) = (ch.2.2.2.length : Int)
      · refine ⟨p, p1, p2, p3, q, ?_⟩
        have := (qN_c hok.1 p).1
        show ch.2.2.2.length = qN s p
        omega
      · rw [if_neg q2] at h
        exact absurd h (by decide)
    · rw [if_neg q] at h
      exact absurd h (by decide)
/-- all CHANGES of a text are kept -/
theorem k_1001l {cs : List pCh} (hs : cSs S) (hr4 : hr < 4) (hok : qOk s) (hcs : cs.length ≤ 400) (hq : ∀ k, k < cs.length → qCq s (cs.getD k dCh) = 0) : ∀ (d i fu : Nat) (G : xG_) (E : List pPe), i + d = cs.length → d < fu → cPs G → cCs G s.1 cs → cPn G (243 + 9 * hr) s E → (∀ i, i < E.length → (E.getD i dPe).2.2.length ≤ 4) → E.length + d ≤ 400 → ∃ G', c1001_140 f fu 64 (243 + 9 * hr) (i : Int) (S, G, m) = some ((cs.length : Int), (S, G', m)) ∧ cPs G' ∧ cPn G' (243 + 9 * hr) s (E ++ (cs.drop i).map qPe) ∧ ∀ a j, ¬ (a = 243 + 9 * hr ∧ j = 8) → ¬ (243 + 9 * hr + 4 ≤ a ∧ a ≤ 243 + 9 * hr + 6) → G' a j = G a j := by
  intro d
  induction d with
  | zero =>
    intro i fu G E e1 e2 hp hC hP hE hl
    obtain ⟨fu, rfl⟩ : ∃ t, fu = t + 1 := ⟨fu - 1, by omega⟩
    refine ⟨G, ?_, hp, by rw [List.drop_eq_nil_of_le (by omega), List.map_nil, List.append_nil]; exact hP, fun _ _ _ _ => rfl⟩
    show c1001_140b (c1001_140 f fu) f _ _ _ _ = _
    unfold c1001_140b
    rw [o_gr (y := 72) (s64 hs) (p64_1 hp), Option.bind_some, o_gi (s72 hs), Option.bind_some, hC.1, if_pos (by omega), Option.bind_some, o_gi (s72 hs), Option.bind_some, hC.1]
  | succ d ih =>
    intro i fu G E e1 e2 hp hC hP hE hl
    obtain ⟨fu, rfl⟩ : ∃ t, fu = t + 1 := ⟨fu - 1, by omega⟩
    have hi : i < cs.length := by omega
    obtain ⟨a1, a2, a3, a4, a5, a6⟩ := hC.2 i hi
    obtain ⟨p, p1, p2, p3⟩ := chT_of hok (hq i hi)
    have ls := lnSt_of hs hr4
    have lp := lnPt_of hp hr4
    obtain ⟨ad, had1, had2, had3⟩ : ∃ ad : Int, (ad = 0 ∨ ad = 1) ∧ (ad = if (qPe (cs.getD i dCh)).1 < 0 then 0 else 1) ∧ c1001_140 f (fu + 1) 64 (243 + 9 * hr) (i : Int) (S, G, m) = c1001_183 (c1001_140 f fu) f 64 (243 + 9 * hr) (i : Int) ad (p : Int) (243 + 9 * hr) (S, G, m) := by
      by_cases q : (cs.getD i dCh).1 = 43
      · refine ⟨1, .inr rfl, ?_, ?_⟩
        · show _ = if (if (cs.getD i dCh).1 = 43 then (1 : Int) else -1) < 0 then (0 : Int) else 1
          rw [if_pos q]
          rfl
        · show c1001_140b (c1001_140 f fu) f _ _ _ _ = _
          unfold c1001_140b
          rw [o_gr (y := 72) (s64 hs) (p64_1 hp), Option.bind_some, o_gi (s72 hs), Option.bind_some, hC.1, if_neg (by omega), Option.bind_some, o_gr (y := 78) (s72 hs) (p72_15 hp), Option.bind_some, o_a (s78 hs) (by omega), Option.bind_some, a2, p2, Option.bind_some, o_gr (y := 79) (s72 hs) (p72_16 hp), Option.bind_some, o_a (s79 hs) (by omega), Option.bind_some, a1, if_neg (fun z => z q)]
      · refine ⟨0, .inl rfl, ?_, ?_⟩
        · show _ = if (if (cs.getD i dCh).1 = 43 then (1 : Int) else -1) < 0 then (0 : Int) else 1
          rw [if_neg q]
          rfl
        · show c1001_140b (c1001_140 f fu) f _ _ _ _ = _
          unfold c1001_140b
          rw [o_gr (y := 72) (s64 hs) (p64_1 hp), Option.bind_some, o_gi (s72 hs), Option.bind_some, hC.1, if_neg (by omega), Option.bind_some, o_gr (y := 78) (s72 hs) (p72_15 hp), Option.bind_some, o_a (s78 hs) (by omega), Option.bind_some, a2, p2, Option.bind_some, o_gr (y := 79) (s72 hs) (p72_16 hp), Option.bind_some, o_a (s79 hs) (by omega), Option.bind_some, a1, if_pos q]
    obtain ⟨G1, b1, b2, b3, b4, b5, b6⟩ := k_8 (f := f) (m := m) (p := (p : Int)) (ad := ad) (fm := 4 * i) (w := (cs.getD i dCh).2.2.2.length) ls lp hP.1 (by omega) (s82 hs) (by omega) (by decide) a5 had1 (by omega)
    have z1 := b2.li
    have hp1 : cPs G1 := hp.ge (fun a j hz => z1 a j (by
      rcases hz with z | z | z | z | z | z | z | ⟨z, z1, z2, k, z3⟩ | z | z | z | ⟨k, z1, z2, z3⟩ <;> omega) (by
      rcases hz with z | z | z | z | z | z | z | ⟨z, z1, z2, k, z3⟩ | z | z | z | ⟨k, z1, z2, z3⟩ <;> omega))
    obtain ⟨G', k1, k2, k3, k4⟩ := ih (i + 1) fu G1 (E ++ [qPe (cs.getD i dCh)]) (by omega) (by omega) hp1 (hC.ge (fun a j y1 y2 => z1 a j (by omega) (by omega))) (hP.add (by omega) b2 b3 (.inl ⟨p, p1, p3, b4⟩) (by rw [b5]; exact had2) (fun c hc => by
      have hc' : c < (cs.getD i dCh).2.2.2.length := hc
      rw [b6 c hc', a6 c hc']; rfl) hE) (fun j hj => by
      rw [List.length_append, List.length_singleton] at hj
      by_cases q : j < E.length
      · rw [getD_app _ q]; exact hE j q
      · have : j = E.length := by omega
        have ge := getD_apr (l := E) (d := dPe) [qPe (cs.getD i dCh)] 0
        rw [Nat.add_zero] at ge
        rw [this, ge]
        exact a5) (by rw [List.length_append, List.length_singleton]; omega)
    refine ⟨G', ?_, k2, ?_, fun a j y1 y2 => by rw [k4 a j y1 y2, z1 a j y1 y2]⟩
    · rw [had3]
      unfold c1001_183
      have i1 : cq_is 1 14 (243 + 9 * hr) (S, G, m) = some () := if_pos ls.1
      have w4 : xwr (4 * (i : Int)) = ((4 * i : Nat) : Int) := by rw [xwr_g _ (by omega) (by omega)]; omega
      have wi : xwr ((i : Int) + 1) = ((i + 1 : Nat) : Int) := by rw [xwr_g _ (by omega) (by omega)]; omega
      rw [o_gr (y := 72) (s64 hs) (p64_1 hp), Option.bind_some, o_gr (y := 82) (s72 hs) (p72_19 hp), Option.bind_some, Option.bind_some, o_gr (y := 81) (s72 hs) (p72_18 hp), Option.bind_some, o_a (s81 hs) (by omega), Option.bind_some, a4, i1, Option.bind_some, w4, b1, Option.bind_some, wi]
      exact k1
    · rw [List.append_assoc] at k3
      have : cs.drop i = cs.getD i dCh :: cs.drop (i + 1) := by rw [List.drop_eq_getElem_cons hi, getD_e hi]
      rw [this, List.map_cons]
      exact k3
end
end
