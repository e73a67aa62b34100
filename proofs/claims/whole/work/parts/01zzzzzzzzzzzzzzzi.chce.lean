/-! THE CLASS: cell() in the house -/
section
variable {f A A' hr n sl ln : Nat} {S S' : Nat → Nat × Nat × Nat} {G G' : xG_} {m : Nat × Nat} {T : List (List Int)} {P P' : Nat → Nat} {l : sLn} {lns : Nat → sLn} {tx t : List Int} {kp : Nat × List (List Int)} {mt : Int × List Int} {pl rf : Int}
/-- the text that a CELL is told -/
theorem cCt.up {W : Nat → Int} {x o : Nat} {w : Int} {e : List pNd × Int} (h : cCt T S G A ln W) (hl : 242 < ln ∧ ln + 8 < 279) (hA : A ≤ A') (h5 : 555 < A) (hS : ∀ a, a < A → S' a = S a) (hG : xSf A G G') (h7 : ∀ c, G' (ln + 7) c = if c = x then 1 else G (ln + 7) c) (h8 : ∀ c, G' (ln + 8) c = if c = x then (o : Int) else G (ln + 8) c) (hw : w ≠ -1) (ho : o = 0 ∧ xOf T (fun _ => w.toNat) x = none ∨ o = A ∧ A + 2 < A' ∧ xOf T (fun _ => w.toNat) x = some e ∧ cFm S' G' o e) : cCt T S' G' A' ln (fun c => if c = x then w else W c) := by
  obtain ⟨lt, h⟩ := h
  refine ⟨fun c => if c = x then o else lt c, fun c hc => ?_⟩
  obtain ⟨a1, a2, a3⟩ := h c hc
  by_cases q : c = x
  · rw [h7, h8, if_pos q, if_pos q]
    refine ⟨⟨fun z => absurd z (by decide), fun z => ?_⟩, by show (o : Int) = (((if c = x then o else lt c) : Nat) : Int); rw [if_pos q], ?_⟩
    · have z' : (if c = x then w else W c) = -1 := z
      rw [if_pos q] at z'
      exact absurd z' hw
    · have e1 : xOf T (fun c => ((fun c => if c = x then w else W c) c).toNat) c = xOf T (fun _ => w.toNat) x := by
        rw [q]
        exact xOf_1 (by show (if x = x then w else W x).toNat = w.toNat; rw [if_pos rfl])
      rw [e1]
      show ((if c = x then o else lt c) = 0 ∧ _ ∨ 555 < (if c = x then o else lt c) ∧ (if c = x then o else lt c) + 2 < A' ∧ ∃ e, _ ∧ cFm S' G' (if c = x then o else lt c) e)
      rw [if_pos q]
      rcases ho with z | ⟨z1, z2, z3, z4⟩
      · exact .inl z
      · exact .inr ⟨by omega, by omega, e, z3, z4⟩
  · rw [h7, h8, if_neg q, if_neg q]
    have e1 : xOf T (fun c => ((fun c => if c = x then w else W c) c).toNat) c = xOf T (fun c => (W c).toNat) c := xOf_1 (by show (if c = x then w else W c).toNat = (W c).toNat; rw [if_neg q])
    have e2 : (fun c => if c = x then w else W c) c = W c := if_neg q
    rw [e1, e2]
    show _ ∧ _ = (((if c = x then o else lt c) : Nat) : Int) ∧ ((if c = x then o else lt c) = 0 ∧ _ ∨ 555 < (if c = x then o else lt c) ∧ (if c = x then o else lt c) + 2 < A' ∧ ∃ e, _ ∧ cFm S' G' (if c = x then o else lt c) e)
    rw [if_neg q]
    refine ⟨a1, a2, ?_⟩
    rcases a3 with z | ⟨z1, z2, e, z3, z4⟩
    · exact .inl z
    · exact .inr ⟨z1, by omega, e, z3, z4.ge (fun a y1 y2 => hS a (by omega)) (fun a j y1 y2 => hG a j (by omega) (by omega))⟩
/-- cell() -/
theorem k_ce {v : Int} {T' : List (List Int)} {lns' : Nat → sLn} (hf : 3100 < f) (h : cHs S G A (T, lns, hr, tx, kp, mt, pl, rf) n) (hW : ∀ y, y < 4 → ceOk T (lns y).2.2.2.1.2.2) (hst : stCe T lns hr tx v T' lns') : ∃ S' G' m', c1002 f 64 (S, G, (A, sl)) = some (v, (S', G', m')) ∧ (A ≤ m'.1 ∧ m'.1 ≤ A + 3 ∧ m'.2 ≤ sl + 129) ∧ (∀ a, a < A → S' a = S a) ∧ cHs S' G' m'.1 (T', lns', hr, [], kp, mt, pl, rf) (n + 1) := by
  obtain ⟨⟨a1, a2, a3, a4⟩, ⟨P, b1, b2, b3⟩, ⟨c1, c2⟩, ⟨c3, c4⟩, c5, c6, c7, c8, c9⟩ := h
  obtain ⟨v', S', G', m', k1, k2, k3, k4, k5, k6, k7, k8, k9⟩ := k_1002 (f := f) (A := A) (sl := sl) a1 a2 c7 (by omega) c2 c1 hf
  have s1 : cSs S' := fun k hk => by rw [k2 _ (by omega)]; exact a1 k hk
  have g : ∀ a j, a < A → (a = 64 ∨ 82 < a) → a ≠ 243 + 9 * hr + 7 → a ≠ 243 + 9 * hr + 8 → G' a j = G a j := fun a j y1 y2 y3 y4 => k8 a j y1 (by omega) y3 y4
  have sf : xSf A G G' := fun a j y1 y2 => g a j y1 (by omega) (by omega) (by omega)
  have pE : cEd T S' G' m'.1 P := b1.ge k3 k2 sf (by rw [g _ _ (by omega) (by omega) (by omega) (by omega)]; exact Int.le_refl _)
  have pEe := b3.ge k3 k2 sf ⟨g _ _ (by omega) (by omega) (by omega) (by omega), g _ _ (by omega) (by omega) (by omega) (by omega)⟩
  have pLo : ∀ y, y < 4 → y ≠ hr → cLn T S' G' m'.1 P (243 + 9 * y) (lns y) := fun y hy d => (b2 y hy).ge k3 k2 sf (fun a j y1 y2 => g a j (by omega) (by omega) (by omega) (by omega))
  -- what else stands
  have rest : ∀ (T' : List (List Int)) (lns' : Nat → sLn) (P' : Nat → Nat), cEd T' S' G' m'.1 P' → (∀ y, y < 4 → cLn T' S' G' m'.1 P' (243 + 9 * y) (lns' y)) → cEe T' S' G' m'.1 P' (lns' hr) → cHs S' G' m'.1 (T', lns', hr, [], kp, mt, pl, rf) (n + 1) := fun T' lns' P' q1 q2 q3 => ⟨⟨s1, k6, a3.ge (fun a j y1 y2 => g a j (by omega) (by omega) (by omega) (by omega)), by omega⟩, ⟨P', q1, q2, q3⟩, ⟨c1, by rw [g _ _ (by omega) (by omega) (by omega) (by omega)]; exact c2⟩, ⟨by rw [g _ _ (by omega) (by omega) (by omega) (by omega)]; exact c3, by rw [g _ _ (by omega) (by omega) (by omega) (by omega)]; omega⟩, by rw [g _ _ (by omega) (by omega) (by omega) (by omega)]; exact c5, by rw [g _ _ (by omega) (by omega) (by omega) (by omega)]; exact c6, cTx.nil k7, c8.ge (fun a y => k2 a (by omega)) (fun a j y1 y2 => g a j (by omega) (by omega) (by omega) (by omega)) ⟨g _ _ (by omega) (by omega) (by omega) (by omega), g _ _ (by omega) (by omega) (by omega) (by omega)⟩, c9.ge ⟨g _ _ (by omega) (by omega) (by omega) (by omega), g _ _ (by omega) (by omega) (by omega) (by omega)⟩ (fun j => g _ _ (by omega) (by omega) (by omega) (by omega))⟩
  obtain ⟨Yr, ⟨Yw, Yc⟩, Ye, ⟨sp, Yp1, Yp2⟩, Yt, Y3, Y4⟩ := id (b2 hr c1)
  obtain ⟨s0, M0, hm⟩ := (b2 hr c1).mo
  have hT : 0 < T.length := Nat.lt_of_le_of_lt (Nat.zero_le _) hm.1
  have zy : ∀ a j, 243 + 9 * hr ≤ a → a ≤ 243 + 9 * hr + 6 → G' a j = G a j := fun a j y1 y2 => g a j (by omega) (by omega) (by omega) (by omega)
  have Yr' := Yr.ge k3 k2 sf ⟨zy _ _ (by omega) (by omega), zy _ _ (by omega) (by omega), fun j _ _ => zy _ _ (by omega) (by omega)⟩
  have Yp' : cPn G' (243 + 9 * hr) sp (lns hr).2.2.2.1.1 := Yp2.ge (fun a j y1 y2 => zy a j (by omega) (by omega))
  -- the line with another row of texts
  have pLn : ∀ W, cCt T S' G' m'.1 (243 + 9 * hr) W → cLn T S' G' m'.1 P (243 + 9 * hr) (lnD (lns hr) (lns hr).2.2.2.1.1 (lns hr).2.2.2.1.2.1 W) := fun W q => ⟨Yr', ⟨fun p hp => by rw [zy _ _ (by omega) (by omega)]; exact Yw p hp, fun c hc => by rw [zy _ _ (by omega) (by omega)]; exact Yc c hc⟩, by rw [zy _ _ (by omega) (by omega)]; exact Ye, ⟨sp, Yp1, Yp'⟩, q, by rw [zy _ _ (by omega) (by omega)]; exact Y3, fun hne => by rw [zy _ _ (by omega) (by omega)]; exact Y4 hne⟩
  unfold stCe at hst
  cases hq : qCt tx with
  | inl w =>
    rw [hq] at hst k9
    obtain ⟨e1, e2, e3⟩ := hst
    obtain ⟨u1, u2⟩ := k9
    rw [e1, e2, e3, ← u1]
    exact ⟨S', G', m', k1, ⟨k3, k4, k5⟩, k2, rest T lns P pE (fun y hy => (b2 y hy).ge k3 k2 sf (fun a j y1 y2 => by
      by_cases d1 : a = 243 + 9 * hr + 7
      · rw [d1]; exact (u2 j).1
      · by_cases d2 : a = 243 + 9 * hr + 8
        · rw [d2]; exact (u2 j).2
        · exact g a j (by omega) (by omega) d1 d2)) pEe⟩
  | inr r =>
    rw [hq] at hst k9
    obtain ⟨e1, e2⟩ := hst
    obtain ⟨u1, u2, o, u3, u4⟩ := k9
    rw [e1, ← u1]
    rcases e2 with ⟨q1, q2, q3⟩ | ⟨q1, q2, q3⟩
    · rw [q2, q3]
      rcases u3 with ⟨_, w1⟩ | ⟨w0, _⟩
      · have ct := Yt.up (S' := S') (x := r.1.toNat) (o := o) (w := 0) (e := ([], 0)) (by omega) k3 a4 k2 sf (fun c => (u4 c).1) (fun c => (u4 c).2) (by decide) (.inl ⟨w1, rfl⟩)
        refine ⟨S', G', m', k1, ⟨k3, k4, k5⟩, k2, rest T _ P pE (fun y hy => ?_) ?_⟩
        · unfold lUp
          by_cases d : y = hr
          · subst d
            rw [if_pos rfl]
            exact pLn _ ct
          · rw [if_neg d]; exact pLo y hy d
        · unfold lUp
          rw [if_pos rfl]
          exact pEe
      · exact absurd q1 w0
    · rw [q2, q3]
      rcases u3 with ⟨w0, _⟩ | ⟨_, w1, w2, w3⟩
      · exact absurd w0 q1
      · have gl : (T ++ [tx]).getD T.length [] = tx := by
          have := getD_apr (l := T) (d := []) [tx] 0
          rw [Nat.add_zero] at this
          exact this
        have gl2 : (T ++ [tx]).length = T.length + 1 := by rw [List.length_append]; rfl
        have hWl : ∀ c, c < 72 → ((lns hr).2.2.2.1.2.2 c).toNat < T.length := fun c hc => by
          rcases hW hr c1 c with z | z
          · rw [z]; exact hT
          · exact z.2.1
        have ct := (Yt.app tx hWl).up (S' := S') (x := r.1.toNat) (o := o) (w := (T.length : Int)) (e := r.2) (by omega) k3 a4 k2 sf (fun c => (u4 c).1) (fun c => (u4 c).2) (by omega) (.inr ⟨w1, w2, by
          unfold xOf
          have e : (fun _ : Nat => ((T.length : Int)).toNat) r.1.toNat = T.length := Int.toNat_natCast _
          rw [e, if_neg (Nat.pos_iff_ne_zero.mp hT), gl, hq], w3⟩)
        have qE : cEd (T ++ [tx]) S' G' m'.1 P := ⟨fun e he => by
          obtain ⟨x1, x2, x3⟩ := pE.1 e he
          exact ⟨by omega, x2.app tx x1, x3⟩, pE.2⟩
        have lE : lnE (lns hr) < T.length := by
          unfold lnE
          rcases Ye with ⟨e, _⟩ | ⟨e1, e2, _⟩
          · rw [if_pos e]; exact hm.1
          · rw [if_neg (by omega)]; exact (b1.1 _ e2).1
        refine ⟨S', G', m', k1, ⟨k3, k4, k5⟩, k2, rest (T ++ [tx]) _ P qE (fun y hy => ?_) ?_⟩
        · unfold lUp
          by_cases d : y = hr
          · subst d
            rw [if_pos rfl]
            exact ⟨Yr'.app tx (fun _ _ => rfl), ⟨fun p hp => by rw [zy _ _ (by omega) (by omega)]; exact Yw p hp, fun c hc => by rw [zy _ _ (by omega) (by omega)]; exact Yc c hc⟩, by rw [zy _ _ (by omega) (by omega)]; exact Ye, ⟨sp, by rw [getD_app _ (by exact lE)]; exact Yp1, Yp'⟩, ct, by rw [zy _ _ (by omega) (by omega)]; exact Y3, fun hne => by rw [zy _ _ (by omega) (by omega)]; exact Y4 hne⟩
          · rw [if_neg d]; exact (pLo y hy d).app tx pE (hW y hy) (fun _ _ => rfl)
        · unfold lUp
          rw [if_pos rfl]
          exact pEe.app tx (fun _ _ => rfl)
end
