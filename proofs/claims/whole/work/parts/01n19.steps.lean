section
/-! THE HOUSE: its state, what a call does -/
/-- texts, lines, the line in use, what is fed, answers kept, what merge met, place, rounds refused -/
abbrev sHs : Type := List (List Int) × (Nat → sLn) × Nat × List Int × (Nat × List (List Int)) × (Int × List Int) × Int × Int
abbrev sAr : Type := Int × Int × Int × Int × Int
def stSh (T : List (List Int)) (ln : sLn) (a b w t v : Int) : Prop := ∃ s M, isMo T (lMo ln) s M ∧ (((0 ≤ a ∧ a < 6 ∧ 0 ≤ b ∧ b ≤ 11) ∧ t = 0 ∧ v = (if w = 0 then (fSh (xOf T (lMo ln).2.2.1) s M (a + 6 * b).toNat).1 else if w = 1 then (fSh (xOf T (lMo ln).2.2.1) s M (a + 6 * b).toNat).2 else if w = 2 then ln.2.2.1.2.1 (a + 6 * b).toNat else -1)) ∨ (¬ (0 ≤ a ∧ a < 6 ∧ 0 ≤ b ∧ b ≤ 11) ∧ t = 1 ∧ v = 0))
/-- the call c with A: it answers v, t tells whether it throws -/
def stC (c : Nat) (A : sAr) (S : sHs) (v t : Int) (S' : sHs) : Prop := match S with
  | (T, lns, hr, tx, kp, mt, pl, rf) => match c with
    | 0 => ∃ tx', stFe tx A.1 A.2.1 A.2.2.1 A.2.2.2.1 A.2.2.2.2 v tx' ∧ S' = (T, lns, hr, tx', kp, mt, pl, rf)
    | 1 => ∃ tx', stEn tx A.1 v tx' ∧ S' = (T, lns, hr, tx', kp, mt, pl, rf)
    | 2 => ∃ pl' T' lns', stPg T lns hr tx v pl' T' lns' ∧ S' = (T', lns', hr, [], kp, mt, pl', rf)
    | 3 => v = pl ∧ S' = S
    | 4 => ∃ pl' lns', stCh T lns hr tx v pl' lns' ∧ S' = (T, lns', hr, [], kp, mt, pl', rf)
    | 5 => ∃ T' lns', stCe T lns hr tx v T' lns' ∧ S' = (T', lns', hr, [], kp, mt, pl, rf)
    | 6 => v = ((lns hr).2.2.2.1.1.length : Int) ∧ S' = (T, lUp lns hr (lnF (lns hr)), hr, tx, kp, mt, pl, rf)
    | 7 => ∃ ln' good, stRd T (lns hr) v ln' good ∧ S' = (T, lUp lns hr ln', hr, tx, kp, mt, pl, if good = true then rf else rf + 1)
    | 8 => stCo T (lns hr) hr tx.length rf A.1 v ∧ S' = S
    | 9 => stPd T (lns hr) A.1 A.2.1 t v ∧ S' = S
    | 10 => stVa T (lns hr) A.1 A.2.1 A.2.2.1 t v ∧ S' = S
    | 11 => (∃ s M E, isMo T (lMo (lns hr)) s M ∧ lnEs (lns hr) s E ∧ v = (E.length : Int)) ∧ S' = S
    | 12 => stEt T (lns hr) A.1 A.2.1 t v ∧ S' = S
    | 13 => ∃ pl' kp', (∃ s M, isMo T (lMo (lns hr)) s M ∧ stQu s M kp tx v pl' kp') ∧ S' = (T, lns, hr, [], kp', mt, pl', rf)
    | 14 => stAn kp A.1 A.2.1 t v ∧ S' = S
    | 15 => stRk T (lns hr) A.1 A.2.1 t v ∧ S' = S
    | 16 => stRe T (lns hr) A.1 A.2.1 A.2.2.1 t v ∧ S' = S
    | 17 => stSh T (lns hr) A.1 A.2.1 A.2.2.1 t v ∧ S' = S
    | 18 => stPa T (lns hr) A.1 A.2.1 v ∧ S' = S
    | 19 => stPv T (lns hr) A.1 A.2.1 A.2.2.1 A.2.2.2.1 t v ∧ S' = S
    | 20 => ∃ lns', stBk lns hr A.1 v lns' ∧ S' = (T, lns', hr, tx, kp, mt, pl, rf)
    | 21 => ∃ lns', stBr lns hr A.1 A.2.1 v lns' ∧ S' = (T, lns', hr, tx, kp, mt, pl, rf)
    | 22 => v = (if 0 ≤ A.1 ∧ A.1 < 4 then (hr : Int) else -1) ∧ S' = (if 0 ≤ A.1 ∧ A.1 < 4 then (T, lUp lns A.1.toNat (lnT (lns A.1.toNat)), A.1.toNat, tx, kp, mt, pl, rf) else S)
    | 23 => ∃ mt' lns', stMg T lns hr A.1 mt v mt' lns' ∧ S' = (T, lns', hr, tx, kp, mt', pl, rf)
    | 24 => stMe mt A.1 t v ∧ S' = S
    | _ => False
/-- the reference stands at S; n calls were done -/
def rHs (G : xG_) (S : sHs) (n : Nat) : Prop := match S with
  | (T, lns, hr, tx, kp, mt, pl, rf) => ∃ m, rHb G T m lns hr n ∧ hInv T lns ∧ rTp G tx ∧ rKp G kp ∧ rMt G mt ∧ G 0 75 = pl ∧ G 0 63 = rf ∧ T.length ≤ 1 + n ∧ m + tx.length ≤ 20 * n
/-- the call c of the reference -/
def gC (c f : Nat) (A : sAr) (G : xG_) : Option (Int × xG_) := match c with
  | 0 => g359 f A.1 A.2.1 A.2.2.1 A.2.2.2.1 A.2.2.2.2 G
  | 1 => g360 f A.1 G
  | 2 => g363 f G
  | 3 => g364 f G
  | 4 => g365 f G
  | 5 => g356 f G
  | 6 => g367 f G
  | 7 => g298 f G
  | 8 => g377 f A.1 G
  | 9 => g378 f A.1 A.2.1 G
  | 10 => g372 f A.1 A.2.1 A.2.2.1 G
  | 11 => g379 f G
  | 12 => g380 f A.1 A.2.1 G
  | 13 => g368 f G
  | 14 => g370 f A.1 A.2.1 G
  | 15 => g373 f A.1 A.2.1 G
  | 16 => g374 f A.1 A.2.1 A.2.2.1 G
  | 17 => g355 f A.1 A.2.1 A.2.2.1 G
  | 18 => g318 f A.1 A.2.1 G
  | 19 => g320 f A.1 A.2.1 A.2.2.1 A.2.2.2.1 G
  | 20 => g314 f A.1 G
  | 21 => g315 f A.1 A.2.1 G
  | 22 => g317 f A.1 G
  | 23 => g326 f A.1 G
  | 24 => g330 f A.1 G
  | _ => none
theorem rTp.nil {G : xG_} (h : G 0 73 = 0) : rTp G [] := ⟨h, Nat.zero_le _, ⟨.inr rfl, by decide +kernel, fun p hp => absurd hp (Nat.not_lt_zero p)⟩, fun p hp => absurd hp (Nat.not_lt_zero p)⟩
theorem rMt.g2 {G G' : xG_} {mt : Int × List Int} (h : rMt G mt) (h0 : ∀ j, 82 ≤ j → j ≤ 83 → G' 0 j = G 0 j) (h1 : ∀ j, G' 257 j = G 257 j) : rMt G' mt := ⟨by rw [h0 _ (by omega) (by omega)]; exact h.1, by rw [h0 _ (by omega) (by omega)]; exact h.2.1, h.2.2.1, fun j hj => by rw [h1]; exact h.2.2.2 j hj⟩
section
variable {f n m hr : Nat} {T : List (List Int)} {lns : Nat → sLn} {tx : List Int} {kp : Nat × List (List Int)} {mt : Int × List Int} {pl rf : Int} {G G' : xG_}
/-- behind a call that changes no more than xfHo says -/
theorem rHs.ho {lns' : Nat → sLn} {hr' n' : Nat} {rf' : Int} (hx : xfHo G G') (h : rHb G' T m lns' hr' n') (hi : hInv T lns') (h3 : rTp G tx) (h4 : rKp G kp) (h5 : rMt G mt) (h6 : G 0 75 = pl) (h7 : G' 0 63 = rf') (h8 : T.length ≤ 1 + n') (h9 : m + tx.length ≤ 20 * n') : rHs G' (T, lns', hr', tx, kp, mt, pl, rf') n' := ⟨m, h, hi, h3.ge (hx _ _ (by omega) (by omega) (by omega) (by omega) (by omega)) (fun j => hx _ _ (by omega) (by omega) (by omega) (by omega) (by omega)), h4.ge (fun j _ _ => hx _ _ (by omega) (by omega) (by omega) (by omega) (by omega)) (fun j => hx _ _ (by omega) (by omega) (by omega) (by omega) (by omega)), h5.g2 (fun j _ _ => hx _ _ (by omega) (by omega) (by omega) (by omega) (by omega)) (fun j => hx _ _ (by omega) (by omega) (by omega) (by omega) (by omega)), by rw [hx _ _ (by omega) (by omega) (by omega) (by omega) (by omega)]; exact h6, h7, h8, h9⟩
theorem xfHo.u74 {v : Int} : xfHo G (xup2 G 0 74 v) := fun a j q1 q2 q3 q4 q5 => xup2_n (by omega)
/-- THE REFERENCE: each call -/
theorem r_step (hf : 1000100 < f) (hn : n < 600) {c : Nat} (hc : c ≤ 24) {A : sAr} (hA : A.2.2.1 < 2147483648) {S : sHs} (h : rHs G S n) : ∃ v t G' S', gC c f A G = some (v, G') ∧ stC c A S v t S' ∧ rHs G' S' (n + 1) ∧ G' 0 74 = t := by
  obtain ⟨T, lns, hr, tx, kp, mt, pl, rf⟩ := S
  obtain ⟨m, h1, h2, h3, h4, h5, h6, h7, h8, h9⟩ := h
  have hh : hr < 4 := h1.2.2.2.1
  have h1' := h1.mo (Nat.le_succ n)
  have htx := h3.2.1
  have hT : T.length < 4200 := by omega
  have hm : m + tx.length ≤ 90000 := by omega
  have same : ∀ {v t : Int} {G' : xG_}, gC c f A G = some (v, G') → stC c A (T, lns, hr, tx, kp, mt, pl, rf) v t (T, lns, hr, tx, kp, mt, pl, rf) → rHb G' T m lns hr n → G' 0 74 = t → G' 0 63 = G 0 63 → xfHo G G' → ∃ v t G' S', gC c f A G = some (v, G') ∧ stC c A (T, lns, hr, tx, kp, mt, pl, rf) v t S' ∧ rHs G' S' (n + 1) ∧ G' 0 74 = t := fun {v t G'} e1 e2 e3 e4 e5 e6 => ⟨v, t, G', _, e1, e2, rHs.ho e6 (e3.mo (Nat.le_succ n)) h2 h3 h4 h5 h6 (by rw [e5]; exact h7) (by omega) (by omega), e4⟩
  rcases (show c = 0 ∨ c = 1 ∨ c = 2 ∨ c = 3 ∨ c = 4 ∨ c = 5 ∨ c = 6 ∨ c = 7 ∨ c = 8 ∨ c = 9 ∨ c = 10 ∨ c = 11 ∨ c = 12 ∨ c = 13 ∨ c = 14 ∨ c = 15 ∨ c = 16 ∨ c = 17 ∨ c = 18 ∨ c = 19 ∨ c = 20 ∨ c = 21 ∨ c = 22 ∨ c = 23 ∨ c = 24 by omega) with e | e | e | e | e | e | e | e | e | e | e | e | e | e | e | e | e | e | e | e | e | e | e | e | e <;> subst e
  · -- feed
    obtain ⟨v, G', t', u1, u2, u3, u4, u5⟩ := l_359 (f := f) (a := A.1) (b := A.2.1) (c := A.2.2.1) (d := A.2.2.2.1) (e := A.2.2.2.2) (by omega) h3
    have hl : t'.length ≤ tx.length + 20 := by
      rcases u2 with ⟨_, _, e⟩ | ⟨_, _, e⟩
      · rw [e, List.length_append]; exact Nat.le_refl _
      · rw [e]; omega
    exact ⟨v, 0, G', _, u1, ⟨t', u2, rfl⟩, ⟨m, h1'.ge (fun j _ => u5 _ _ (by omega) (by omega)) (fun a j _ _ => u5 _ _ (by omega) (by omega)) (fun a j _ _ => u5 _ _ (by omega) (by omega)) (fun a j _ _ _ => u5 _ _ (by omega) (by omega)), h2, u3, h4.ge (fun j _ _ => u5 _ _ (by omega) (by omega)) (fun j => u5 _ _ (by omega) (by omega)), h5.g2 (fun j _ _ => u5 _ _ (by omega) (by omega)) (fun j => u5 _ _ (by omega) (by omega)), by rw [u5 _ _ (by omega) (by omega)]; exact h6, by rw [u5 _ _ (by omega) (by omega)]; exact h7, by omega, by omega⟩, u4⟩
  · -- end
    obtain ⟨v, G', t', u1, u2, u3, u4, u5⟩ := l_360 (f := f) (k := A.1) h3
    have hl : t'.length ≤ tx.length := by
      rcases u2 with ⟨_, _, e⟩ | ⟨_, _, e⟩
      · rw [e, List.length_take]; omega
      · rw [e]; exact Nat.le_refl _
    exact ⟨v, 0, G', _, u1, ⟨t', u2, rfl⟩, ⟨m, h1'.ge (fun j _ => u5 _ _ (by omega)) (fun a j _ _ => u5 _ _ (by omega)) (fun a j _ _ => u5 _ _ (by omega)) (fun a j _ _ _ => u5 _ _ (by omega)), h2, u3, h4.ge (fun j _ _ => u5 _ _ (by omega)) (fun j => u5 _ _ (by omega)), h5.g2 (fun j _ _ => u5 _ _ (by omega)) (fun j => u5 _ _ (by omega)), by rw [u5 _ _ (by omega)]; exact h6, by rw [u5 _ _ (by omega)]; exact h7, by omega, by omega⟩, u4⟩
  · -- program
    obtain ⟨v, G', T', m', lns', u1, u2, u3, u4, u5, u6, u7⟩ := l_363h (f := f) (by omega) h1 h3 hT hm
    have hl : T'.length ≤ 1 + (n + 1) := by
      rcases u2 with ⟨_, e, _⟩ | ⟨_, _, _, _, _, e, _⟩
      · rw [e]; omega
      · rw [e, List.length_append, List.length_singleton]; omega
    exact ⟨v, 0, G', _, u1, ⟨G' 0 75, T', lns', u2, rfl⟩, ⟨m', u3.mo (Nat.le_succ n), h2.pg hh u2, rTp.nil u5, h4.ge (fun j _ _ => u7 _ _ (by omega) (by omega) (by omega) (by omega) (by omega)) (fun j => u7 _ _ (by omega) (by omega) (by omega) (by omega) (by omega)), h5.g2 (fun j _ _ => u7 _ _ (by omega) (by omega) (by omega) (by omega) (by omega)) (fun j => u7 _ _ (by omega) (by omega) (by omega) (by omega) (by omega)), rfl, by rw [u7 _ _ (by omega) (by omega) (by omega) (by omega) (by omega)]; exact h7, hl, by rw [List.length_nil]; omega⟩, u6⟩
  · -- place
    exact same (t := 0) (l_364 (f := f)) ⟨h6, rfl⟩ h1.u74 (xup2_s _ _ _ _) (xup2_n (by omega)) xfHo.u74
  · -- change
    obtain ⟨v, G', lns', u1, u2, u3, u5, u6, u7⟩ := l_365h (f := f) (by omega) h1 h3
    exact ⟨v, 0, G', _, u1, ⟨G' 0 75, lns', u2, rfl⟩, ⟨m, u3.mo (Nat.le_succ n), h2.ch hh u2, rTp.nil u5, h4.ge (fun j _ _ => u7 _ _ (by omega) (by omega) (by omega) (by omega) (by omega)) (fun j => u7 _ _ (by omega) (by omega) (by omega) (by omega) (by omega)), h5.g2 (fun j _ _ => u7 _ _ (by omega) (by omega) (by omega) (by omega) (by omega)) (fun j => u7 _ _ (by omega) (by omega) (by omega) (by omega) (by omega)), rfl, by rw [u7 _ _ (by omega) (by omega) (by omega) (by omega) (by omega)]; exact h7, by omega, by rw [List.length_nil]; omega⟩, u6⟩
  · -- cell
    obtain ⟨v, G', T', m', lns', u1, u2, u3, u4, u5, u6, u8, u7⟩ := l_356h (f := f) (by omega) h1 h3 hT hm
    have hl : T'.length ≤ 1 + (n + 1) := by
      have u2' := u2
      unfold stCe at u2'
      cases hq : qCt tx with
      | inl w => rw [hq] at u2'; rw [u2'.2.1]; omega
      | inr r =>
        rw [hq] at u2'
        rcases u2'.2 with ⟨_, e, _⟩ | ⟨_, e, _⟩
        · rw [e]; omega
        · rw [e, List.length_append, List.length_singleton]; omega
    exact ⟨v, 0, G', _, u1, ⟨T', lns', u2, rfl⟩, ⟨m', u3.mo (Nat.le_succ n), h2.ce hh u2, rTp.nil u5, h4.ge (fun j _ _ => u7 _ _ (by omega) (by omega) (by omega) (by omega) (by omega)) (fun j => u7 _ _ (by omega) (by omega) (by omega) (by omega) (by omega)), h5.g2 (fun j _ _ => u7 _ _ (by omega) (by omega) (by omega) (by omega) (by omega)) (fun j => u7 _ _ (by omega) (by omega) (by omega) (by omega) (by omega)), by rw [u8]; exact h6, by rw [u7 _ _ (by omega) (by omega) (by omega) (by omega) (by omega)]; exact h7, hl, by rw [List.length_nil]; omega⟩, u6⟩
  · -- forget
    obtain ⟨G', u1, u2, u3, u4, u5⟩ := l_367 (f := f) (by omega) h1
    rw [lUp_f (g := lnF)] at u2
    exact ⟨_, 0, G', _, u1, ⟨rfl, rfl⟩, rHs.ho u5 (u2.mo (Nat.le_succ n)) h2.fo h3 h4 h5 h6 (by rw [u4]; exact h7) (by omega) (by omega), u3⟩
  · -- round
    obtain ⟨v, G', ln', good, u1, u2, u3, u4, u5, u6⟩ := l_298h (f := f) hf (by omega) h1
    obtain ⟨s', M', w1, _, _⟩ := u3.2.2.2.2.1 hr hh
    rw [lUp_s] at w1
    exact ⟨v, 0, G', _, u1, ⟨ln', good, u2, rfl⟩, rHs.ho u6 u3 (h2.rd hh u2 w1) h3 h4 h5 h6 (by rw [u4, h7]) (by omega) (by omega), u5⟩
  · -- count
    obtain ⟨v, G', u1, u2, u3, u4, u5, u6⟩ := l_377 (f := f) (w := A.1) hf h1 h3.1
    rw [h7] at u2
    exact same (t := 0) u1 ⟨u2, rfl⟩ u3 u4 u5 u6
  · obtain ⟨t, v, G', u1, u2, u3, u4, u5, u6⟩ := l_378 (f := f) (p := A.1) (w := A.2.1) hf h1
    exact same u1 ⟨u2, rfl⟩ u3 u4 u5 u6
  · obtain ⟨t, v, G', u1, u2, u3, u4, u5, u6⟩ := l_372 (f := f) (p := A.1) (i := A.2.1) (col := A.2.2.1) hf h1
    exact same u1 ⟨u2, rfl⟩ u3 u4 u5 u6
  · obtain ⟨s, M, E, u1, u2, u3⟩ := l_379 (f := f) h1
    exact same (t := 0) u3 ⟨⟨s, M, E, u1, u2, rfl⟩, rfl⟩ h1.u74 (xup2_s _ _ _ _) (xup2_n (by omega)) xfHo.u74
  · obtain ⟨t, v, G', u1, u2, u3, u4, u5, u6⟩ := l_380 (f := f) (i := A.1) (w := A.2.1) hf h1
    exact same u1 ⟨u2, rfl⟩ u3 u4 u5 u6
  · -- query
    obtain ⟨v, G', kp', u1, u2, u3, u4, u5, u6, u7⟩ := l_368 (f := f) hf h1 h3 h4
    exact ⟨v, 0, G', _, u1, ⟨G' 0 75, kp', u2, rfl⟩, ⟨m, u3.mo (Nat.le_succ n), h2, rTp.nil u5, u4, h5.g2 (fun j _ _ => u7 _ _ (by omega) (by omega) (by omega) (by omega)) (fun j => u7 _ _ (by omega) (by omega) (by omega) (by omega)), rfl, by rw [u7 _ _ (by omega) (by omega) (by omega) (by omega)]; exact h7, by omega, by rw [List.length_nil]; omega⟩, u6⟩
  · obtain ⟨t, v, G', u1, u2, u3, u4⟩ := l_370 (f := f) (i := A.1) (k := A.2.1) h4
    exact same u1 ⟨u2, rfl⟩ (h1.ge (fun j _ => u4 _ _ (by omega)) (fun a j _ _ => u4 _ _ (by omega)) (fun a j _ _ => u4 _ _ (by omega)) (fun a j _ _ _ => u4 _ _ (by omega))) u3 (u4 _ _ (by omega)) (fun a j _ _ _ _ _ => u4 _ _ (by omega))
  · obtain ⟨t, v, G', u1, u2, u3, u4, u5, u6⟩ := l_373 (f := f) (p := A.1) (i := A.2.1) hf h1
    exact same u1 ⟨u2, rfl⟩ u3 u4 u5 u6
  · obtain ⟨t, v, G', u1, u2, u3, u4, u5, u6⟩ := l_374 (f := f) (p := A.1) (i := A.2.1) (k := A.2.2.1) hf hA h1
    exact same u1 ⟨u2, rfl⟩ u3 u4 u5 u6
  · -- sheet
    have e := l_355 (f := f) (G := G) hh rfl h1.2.2.1 A.1 A.2.1 A.2.2.1
    obtain ⟨s, M, b1, b2, b3⟩ := h1.l1
    by_cases ci : 0 ≤ A.1 ∧ A.1 < 6 ∧ 0 ≤ A.2.1 ∧ A.2.1 ≤ 11
    · rw [if_pos ci] at e
      have hx : (A.1 + 6 * A.2.1).toNat < 72 := by omega
      have y1 := b2.2.2.2.2.1 _ hx
      have y2 := b2.2.2.2.2.2.2.1 _ hx
      rw [y1.1, y1.2, y2] at e
      exact same (t := 0) e ⟨⟨s, M, b1, .inl ⟨ci, rfl, rfl⟩⟩, rfl⟩ h1.u74 (xup2_s _ _ _ _) (xup2_n (by omega)) xfHo.u74
    · rw [if_neg ci] at e
      exact same (t := 1) e ⟨⟨s, M, b1, .inr ⟨ci, rfl, rfl⟩⟩, rfl⟩ h1.u74.u74 (xup2_s _ _ _ _) (by rw [xup2_n (by omega), xup2_n (by omega)]) (xfHo.u74.tr xfHo.u74)
  · obtain ⟨v, G', u1, u2, u3, u4, u5, u6, _⟩ := l_318 (f := f) (r := A.1) (p := A.2.1) hf (by omega) h1
    exact same (t := 0) u1 ⟨u2, rfl⟩ u3 u4 u5 u6
  · obtain ⟨t, v, G', u1, u2, u3, u4, u5, u6⟩ := l_320 (f := f) (r := A.1) (p := A.2.1) (i := A.2.2.1) (col := A.2.2.2.1) hf (by omega) h1
    exact same u1 ⟨u2, rfl⟩ u3 u4 u5 u6
  · -- back
    obtain ⟨v, G', lns', u1, u2, u3, u4, u5, u6⟩ := l_314 (f := f) (r := A.1) hf (by omega) h1
    exact ⟨v, 0, G', _, u1, ⟨lns', u2, rfl⟩, rHs.ho u6 u3 (h2.bk u2) h3 h4 h5 h6 (by rw [u5]; exact h7) (by omega) (by omega), u4⟩
  · -- branch
    obtain ⟨v, G', lns', u1, u2, u3, u4, u5, u6⟩ := l_315 (f := f) (k := A.1) (r := A.2.1) hf (by omega) h1
    exact ⟨v, 0, G', _, u1, ⟨lns', u2, rfl⟩, rHs.ho u6 u3 (h2.br hh u2) h3 h4 h5 h6 (by rw [u5]; exact h7) (by omega) (by omega), u4⟩
  · -- line
    obtain ⟨G', u1, u2, u3, u4, u5⟩ := l_317 (f := f) (k := A.1) (by omega) h1
    by_cases ck : 0 ≤ A.1 ∧ A.1 < 4
    · rw [if_pos ck, if_pos ck, lUp_f (g := lnT)] at u2
      refine ⟨_, 0, G', (T, lUp lns A.1.toNat (lnT (lns A.1.toNat)), A.1.toNat, tx, kp, mt, pl, rf), u1, ⟨rfl, by rw [if_pos ck]⟩, rHs.ho u5 (u2.mo (Nat.le_succ n)) h2.lt h3 h4 h5 h6 (by rw [u4]; exact h7) (by omega) (by omega), u3⟩
    · rw [if_neg ck, if_neg ck] at u2
      exact same (t := 0) u1 ⟨rfl, by rw [if_neg ck]⟩ u2 u3 u4 u5
  · -- merge
    obtain ⟨v, G', mt', lns', u1, u2, u3, u4, u5, u6, u7⟩ := l_326 (f := f) (k := A.1) hf (by omega) h1 h2 h5
    exact ⟨v, 0, G', _, u1, ⟨mt', lns', u2, rfl⟩, ⟨m, u3.mo (Nat.le_succ n), h2.mg hh u2, h3.ge (u7 _ _ (by omega) (by omega) (by omega) (by omega)) (fun j => u7 _ _ (by omega) (by omega) (by omega) (by omega)), h4.ge (fun j _ _ => u7 _ _ (by omega) (by omega) (by omega) (by omega)) (fun j => u7 _ _ (by omega) (by omega) (by omega) (by omega)), u4, by rw [u7 _ _ (by omega) (by omega) (by omega) (by omega)]; exact h6, by rw [u6]; exact h7, by omega, by omega⟩, u5⟩
  · obtain ⟨t, v, G', u1, u2, u3, u4⟩ := l_330 (f := f) (w := A.1) h5
    exact same u1 ⟨u2, rfl⟩ (h1.ge (fun j _ => u4 _ _ (by omega)) (fun a j _ _ => u4 _ _ (by omega)) (fun a j _ _ => u4 _ _ (by omega)) (fun a j _ _ _ => u4 _ _ (by omega))) u3 (u4 _ _ (by omega)) (fun a j _ _ _ _ _ => u4 _ _ (by omega))
end
end
section
/-! The house as it begins -/
def s00 : pPg := ([], [], [], [], [], 0)
def mo0 : sMo := (0, [], fun _ => 0, fun _ => -1, false)
def ln0 : sLn := (fun _ => mo0, (0, 0, 0), (fun _ => 0, fun _ => 0, false), ([], -1, fun _ => -1), (-1, 0))
def hs0 : sHs := ([[]], fun _ => ln0, 0, [], (0, []), (-1, []), -1, 0)
theorem qPr_0 : qPr [] = .inr s00 := by
  unfold qPr
  show pProg (tstr (tBt []) 0 false) 8 2 s00 = .inr s00
  unfold pProg
  exact if_pos (by decide +kernel)
theorem pFa_0 {k a : Int} : ¬ pFa s00 0 k a := by
  unfold pFa qS5
  have hS : ∀ k a, ¬ qSa s00.2.1 s00.2.2.2.2.1 s00.2.2.2.1 0 s00.1.length 0 k a := fun k a h => by
    rcases h with (⟨y, _, h, _⟩ | ⟨_, z, y, _, h, _⟩) | ⟨_, y, _, h, _⟩
    · exact absurd h (Nat.not_lt_zero _)
    · exact absurd h (Nat.not_lt_zero _)
    · exact absurd h (Nat.not_lt_zero _)
  rintro (h | ⟨_, _, y, _, h, _⟩)
  · exact hS _ _ h
  · exact absurd h (Nat.not_lt_zero _)
theorem qOk_0 : qOk s00 := ⟨⟨Nat.zero_le _, List.nodup_nil, fun x hx => absurd hx (by decide +revert), fun x hx => (by cases hx), fun x hx => (by cases hx), Nat.zero_le _, fun x hx => (by cases hx)⟩, fun x hx => (by cases hx), fun k a => pFa_0⟩
theorem isMo_0 : isMo [[]] mo0 s00 (fun _ => []) := ⟨by decide, qPr_0, qOk_0, fun x hx => (by cases hx), ⟨⟨fun p hp => absurd hp (Nat.not_lt_zero p), fun p hp => absurd hp (Nat.not_lt_zero p), fun p hp => absurd hp (Nat.not_lt_zero p)⟩, fun p hp => absurd hp (Nat.not_lt_zero p)⟩, ⟨List.Pairwise.nil, fun y => ⟨fun h => (by cases h), fun ⟨p, hp, _⟩ => absurd hp (Nat.not_lt_zero p)⟩⟩, ⟨fun c => Nat.zero_lt_one, fun c _ h => absurd rfl h⟩⟩
theorem sOk_0 : sOk [[]] ln0 0 := ⟨fun r r1 r2 => ⟨s00, fun _ => [], isMo_0⟩, fun r r1 r2 => by have r2' : r ≤ 0 := r2; have r1' : 0 < r := r1; omega, ⟨Nat.le_refl _, Nat.le_refl _⟩, ⟨by decide, by decide, by decide⟩, Nat.le_refl _, fun p hp => ⟨Int.le_refl _, Int.le_refl _⟩, fun p hp => ⟨Int.le_refl _, Int.le_refl _⟩, fun e he => (by cases he), .inl rfl, fun c => .inl rfl⟩
theorem fSh_0 {T : List (List Int)} {s : pPg} {M : Nat → List pRw} (c : Nat) : fSh (xOf T (fun _ => 0)) s M c = (0, 0) := rfl
theorem hInv_0 : hInv [[]] (fun _ => ln0) := ⟨fun y hy => ⟨fun r r1 r2 => ⟨s00, fun _ => [], isMo_0, fun p hp => absurd hp (Nat.not_lt_zero p)⟩, fun r r1 r2 => by have r2' : r ≤ 0 := r2; omega, .inl rfl⟩, fun y hy => .inl rfl⟩
/-- the reference as it is made -/
def xIni (G : xG_) : Prop := rC G ∧ (G 0 62 = 0 ∧ G 0 63 = 0 ∧ G 0 64 = 0 ∧ G 0 65 = -1) ∧ (G 0 71 = 1 ∧ G 0 72 = 0 ∧ G 0 73 = 0 ∧ G 0 75 = -1) ∧ (G 0 82 = -1 ∧ G 0 83 = 0 ∧ G 0 105 = 0 ∧ G 0 106 = 0) ∧ (G 241 0 = 0 ∧ G 242 0 = 0) ∧
  ∀ k, k < 4 → (∀ j, (1 ≤ j ∧ j ≤ 4 ∨ j = 10 ∨ j = 16 ∨ j = 17 ∨ j = 27 ∨ j = 33 ∨ j = 36) → G (123 + 29 * k) j = 0) ∧ (G (123 + 29 * k) 34 = -1 ∧ G (123 + 29 * k) 35 = -1) ∧ G (123 + 29 * k + 1) 3 = 0 ∧ (∀ a j, 15 ≤ a → a ≤ 20 → j < 72 → G (123 + 29 * k + a) j = 0) ∧ ∀ j, j < 72 → G (123 + 29 * k + 26) j = -1
theorem r_init {G : xG_} (h : xIni G) : rHs G hs0 0 := by
  obtain ⟨h1, ⟨h2, h3, h4, h5⟩, ⟨h6, h7, h8, h9⟩, ⟨h10, h11, h12, h13⟩, ⟨h14, h15⟩, h16⟩ := h
  refine ⟨0, ⟨h1, ⟨h6, h7, by decide, by decide, fun k hk => ?_⟩, h2, by decide, fun k hk => ?_, ⟨by rw [h3]; decide, by rw [h3]; decide⟩, ⟨by rw [h4]; decide, by rw [h4]; decide⟩, by rw [h5, h4]; decide, fun e => ?_⟩, hInv_0, rTp.nil h8, ⟨h12, h13, Nat.zero_le _, Nat.zero_le _, fun i hi => absurd hi (Nat.not_lt_zero i)⟩, ⟨h10, h11, Nat.zero_le _, fun j hj => absurd hj (Nat.not_lt_zero j)⟩, h9, h3, Nat.le_refl _, Nat.le_refl _⟩
  · have e : k = 0 := by have hk' : k < 1 := hk; omega
    subst e
    exact ⟨Nat.zero_le _, 0, h14, h15, Nat.le_refl _, ⟨.inl rfl, by decide +kernel, fun p hp => absurd hp (Nat.not_lt_zero p)⟩, fun p hp => absurd hp (Nat.not_lt_zero p)⟩
  · obtain ⟨y1, ⟨y2, y3⟩, y4, y5, y6⟩ := h16 k hk
    refine ⟨s00, fun _ => [], isMo_0, ⟨⟨⟨y1 10 (by omega), Nat.zero_le _, fun i hi => absurd hi (Nat.not_lt_zero i)⟩, ⟨y1 16 (by omega), Nat.zero_le _, fun i hi => absurd hi (Nat.not_lt_zero i)⟩, ⟨y1 17 (by omega), Nat.zero_le _, fun i hi => absurd hi (Nat.not_lt_zero i)⟩, List.Pairwise.nil, List.Pairwise.nil, List.Pairwise.nil⟩, ⟨y1 1 (by omega), y1 2 (by omega), y1 3 (by omega), y1 4 (by omega)⟩, ⟨y4, Nat.zero_le _, fun i hi => absurd hi (Nat.not_lt_zero i)⟩, fun c hc => y5 15 c (by omega) (by omega) hc, fun c hc => ⟨y5 17 c (by omega) (by omega) hc, y5 20 c (by omega) (by omega) hc⟩, fun p hp => y5 18 p (by omega) (by omega) (by omega), fun c hc => y5 16 c (by omega) (by omega) hc, ⟨[], ⟨y1 27 (by omega), Nat.zero_le _, fun i hi => absurd hi (Nat.not_lt_zero i)⟩, fun q => absurd (show false = true from q) (by decide), fun _ => rfl⟩, ⟨fun q => absurd (show false = true from q) (by decide), fun _ p hp => y5 19 p (by omega) (by omega) (by omega)⟩, ⟨⟨y1 33 (by omega), Nat.zero_le _, fun i hi => absurd hi (Nat.not_lt_zero i)⟩, y2, fun c hc => y6 c hc⟩, y3, y1 36 (by omega)⟩, sOk_0⟩
  · rw [h5, h4] at e
    exact absurd e (by decide)
end
section
/-! THE CLASS: its own cells that are made with it, at 64 to 278 (228 to 242: the moment nothing); the reference begins at 279 -/
def cl_S : List (Nat × Nat × Nat) := [(1, 11, 17), (1, 8, 8), (2, 2, 3000), (2, 3, 3001), (2, 3, 3001), (2, 3, 3001), (2, 4, 3001), (2, 4, 3001), (1, 4, 20), (2, 3, 3001), (2, 4, 3001), (2, 3, 32), (2, 3, 32), (2, 4, 8), (2, 3, 1024), (2, 3, 1024), (2, 3, 1024), (2, 3, 1024), (2, 4, 4096), (1, 9, 14), (2, 4, 8), (2, 3, 8), (2, 3, 8), (2, 3, 9), (2, 3, 8), (2, 3, 8), (2, 3, 8), (2, 4, 4), (2, 4, 32), (1, 10, 18), (2, 10, 16), (2, 10, 16), (2, 10, 16), (2, 10, 16), (2, 10, 5), (1, 5, 4), (2, 4, 2048), (2, 3, 512), (2, 4, 512), (2, 4, 4), (2, 4, 4), (2, 4, 4), (2, 4, 8), (2, 3, 3), (1, 5, 4), (2, 4, 400), (2, 3, 100), (1, 5, 4), (2, 4, 400), (2, 3, 100), (1, 5, 4), (2, 4, 400), (2, 3, 100), (1, 5, 4), (2, 4, 400), (2, 3, 100), (1, 5, 4), (2, 4, 400), (2, 3, 100), (1, 5, 4), (2, 4, 400), (2, 3, 100), (1, 5, 4), (2, 4, 400), (2, 3, 100), (1, 5, 4), (2, 4, 400), (2, 3, 100), (1, 5, 4), (2, 4, 400), (2, 3, 100), (1, 5, 4), (2, 4, 400), (2, 3, 100), (1, 5, 4), (2, 4, 400), (2, 3, 100), (1, 5, 4), (2, 4, 400), (2, 3, 100), (1, 5, 4), (2, 4, 400), (2, 3, 100), (1, 5, 4), (2, 4, 400), (2, 3, 100), (1, 5, 4), (2, 4, 400), (2, 3, 100), (1, 5, 4), (2, 4, 400), (2, 3, 100), (1, 5, 4), (2, 4, 400), (2, 3, 100), (1, 5, 4), (2, 4, 400), (2, 3, 100), (1, 5, 4), (2, 4, 400), (2, 3, 100), (1, 5, 4), (2, 4, 400), (2, 3, 100), (1, 5, 4), (2, 4, 400), (2, 3, 100), (1, 5, 4), (2, 4, 400), (2, 3, 100), (1, 5, 4), (2, 4, 400), (2, 3, 100), (1, 5, 4), (2, 4, 400), (2, 3, 100), (1, 5, 4), (2, 4, 400), (2, 3, 100), (1, 5, 4), (2, 4, 400), (2, 3, 100), (1, 5, 4), (2, 4, 400), (2, 3, 100), (1, 5, 4), (2, 4, 400), (2, 3, 100), (1, 5, 4), (2, 4, 400), (2, 3, 100), (1, 5, 4), (2, 4, 400), (2, 3, 100), (1, 5, 4), (2, 4, 400), (2, 3, 100), (1, 5, 4), (2, 4, 400), (2, 3, 100), (1, 5, 4), (2, 4, 0), (2, 3, 0), (1, 5, 4), (2, 4, 0), (2, 3, 0), (1, 5, 4), (2, 4, 0), (2, 3, 0), (1, 5, 4), (2, 4, 0), (2, 3, 0), (1, 7, 5), (2, 4, 72), (2, 4, 72), (2, 4, 32), (2, 6, 4), (1, 5, 4), (2, 4, 4000), (2, 3, 500), (1, 5, 4), (2, 4, 4000), (2, 3, 500), (2, 4, 4), (1, 2, 8), (1, 3, 14), (2, 4, 16), (2, 3, 16), (2, 3, 16), (2, 0, 16), (2, 0, 16), (2, 0, 16), (2, 11, 24), (2, 3, 16), (2, 3, 16), (2, 3, 16), (2, 10, 0), (2, 5, 72), (2, 4, 72), (1, 1, 14), (2, 7, 520), (2, 3, 16), (2, 3, 72), (2, 3, 400), (2, 0, 400), (2, 4, 1600), (2, 0, 72), (2, 5, 72), (1, 1, 14), (2, 7, 520), (2, 3, 16), (2, 3, 72), (2, 3, 400), (2, 0, 400), (2, 4, 1600), (2, 0, 72), (2, 5, 72), (1, 1, 14), (2, 7, 520), (2, 3, 16), (2, 3, 72), (2, 3, 400), (2, 0, 400), (2, 4, 1600), (2, 0, 72), (2, 5, 72), (1, 1, 14), (2, 7, 520), (2, 3, 16), (2, 3, 72), (2, 3, 400), (2, 0, 400), (2, 4, 1600), (2, 0, 72), (2, 5, 72)]
def cl_P : List (Nat × Nat × Nat) := [(64, 0, 65), (64, 1, 72), (64, 2, 83), (64, 3, 93), (64, 4, 216), (64, 5, 220), (64, 14, 227), (65, 0, 66), (65, 3, 67), (65, 4, 68), (65, 5, 69), (65, 6, 70), (65, 7, 71), (72, 0, 65), (72, 7, 73), (72, 8, 74), (72, 10, 75), (72, 11, 76), (72, 13, 77), (72, 15, 78), (72, 16, 79), (72, 17, 80), (72, 18, 81), (72, 19, 82), (83, 0, 84), (83, 1, 85), (83, 2, 86), (83, 8, 87), (83, 9, 88), (83, 10, 89), (83, 11, 90), (83, 12, 91), (83, 13, 92), (93, 0, 83), (93, 2, 94), (93, 3, 95), (93, 4, 96), (93, 5, 97), (93, 6, 98), (93, 7, 99), (93, 8, 102), (93, 9, 103), (93, 10, 104), (93, 11, 105), (93, 12, 106), (93, 17, 107), (96, 0, 108), (96, 1, 114), (96, 2, 120), (96, 3, 126), (96, 4, 132), (96, 5, 138), (96, 6, 144), (96, 7, 150), (96, 8, 156), (96, 9, 162), (96, 10, 168), (96, 11, 174), (96, 12, 180), (96, 13, 186), (96, 14, 192), (96, 15, 198), (97, 0, 111), (97, 1, 117), (97, 2, 123), (97, 3, 129), (97, 4, 135), (97, 5, 141), (97, 6, 147), (97, 7, 153), (97, 8, 159), (97, 9, 165), (97, 10, 171), (97, 11, 177), (97, 12, 183), (97, 13, 189), (97, 14, 195), (97, 15, 201), (98, 1, 204), (98, 2, 207), (98, 3, 210), (98, 4, 213), (99, 2, 100), (99, 3, 101), (108, 2, 109), (108, 3, 110), (111, 2, 112), (111, 3, 113), (114, 2, 115), (114, 3, 116), (117, 2, 118), (117, 3, 119), (120, 2, 121), (120, 3, 122), (123, 2, 124), (123, 3, 125), (126, 2, 127), (126, 3, 128), (129, 2, 130), (129, 3, 131), (132, 2, 133), (132, 3, 134), (135, 2, 136), (135, 3, 137), (138, 2, 139), (138, 3, 140), (141, 2, 142), (141, 3, 143), (144, 2, 145), (144, 3, 146), (147, 2, 148), (147, 3, 149), (150, 2, 151), (150, 3, 152), (153, 2, 154), (153, 3, 155), (156, 2, 157), (156, 3, 158), (159, 2, 160), (159, 3, 161), (162, 2, 163), (162, 3, 164), (165, 2, 166), (165, 3, 167), (168, 2, 169), (168, 3, 170), (171, 2, 172), (171, 3, 173), (174, 2, 175), (174, 3, 176), (177, 2, 178), (177, 3, 179), (180, 2, 181), (180, 3, 182), (183, 2, 184), (183, 3, 185), (186, 2, 187), (186, 3, 188), (189, 2, 190), (189, 3, 191), (192, 2, 193), (192, 3, 194), (195, 2, 196), (195, 3, 197), (198, 2, 199), (198, 3, 200), (201, 2, 202), (201, 3, 203), (204, 2, 205), (204, 3, 206), (207, 2, 208), (207, 3, 209), (210, 2, 211), (210, 3, 212), (213, 2, 214), (213, 3, 215), (216, 2, 217), (216, 3, 218), (216, 4, 219), (220, 0, 243), (220, 1, 252), (220, 2, 261), (220, 3, 270), (221, 2, 222), (221, 3, 223), (224, 2, 225), (224, 3, 226), (243, 0, 244), (243, 5, 245), (243, 6, 246), (243, 9, 247), (243, 10, 248), (243, 11, 249), (243, 12, 250), (243, 13, 251), (252, 0, 253), (252, 5, 254), (252, 6, 255), (252, 9, 256), (252, 10, 257), (252, 11, 258), (252, 12, 259), (252, 13, 260), (261, 0, 262), (261, 5, 263), (261, 6, 264), (261, 9, 265), (261, 10, 266), (261, 11, 267), (261, 12, 268), (261, 13, 269), (270, 0, 271), (270, 5, 272), (270, 6, 273), (270, 9, 274), (270, 10, 275), (270, 11, 276), (270, 12, 277), (270, 13, 278)]
def cSs (S : Nat → Nat × Nat × Nat) : Prop := ∀ k, k < 215 → S (64 + k) = cl_S.getD k (0, 0, 0)
def cPs (G : xG_) : Prop := ∀ q, q ∈ cl_P → G q.1 q.2.1 = (q.2.2 : Int)
section
variable {S : Nat → Nat × Nat × Nat} {G : xG_}
theorem s64 (h : cSs S) : S 64 = (1, 11, 17) := h 0 (by decide)
theorem s65 (h : cSs S) : S 65 = (1, 8, 8) := h 1 (by decide)
theorem s66 (h : cSs S) : S 66 = (2, 2, 3000) := h 2 (by decide)
theorem s67 (h : cSs S) : S 67 = (2, 3, 3001) := h 3 (by decide)
theorem s68 (h : cSs S) : S 68 = (2, 3, 3001) := h 4 (by decide)
theorem s69 (h : cSs S) : S 69 = (2, 3, 3001) := h 5 (by decide)
theorem s70 (h : cSs S) : S 70 = (2, 4, 3001) := h 6 (by decide)
theorem s71 (h : cSs S) : S 71 = (2, 4, 3001) := h 7 (by decide)
theorem s72 (h : cSs S) : S 72 = (1, 4, 20) := h 8 (by decide)
theorem s73 (h : cSs S) : S 73 = (2, 3, 3001) := h 9 (by decide)
theorem s74 (h : cSs S) : S 74 = (2, 4, 3001) := h 10 (by decide)
theorem s75 (h : cSs S) : S 75 = (2, 3, 32) := h 11 (by decide)
theorem s76 (h : cSs S) : S 76 = (2, 3, 32) := h 12 (by decide)
theorem s77 (h : cSs S) : S 77 = (2, 4, 8) := h 13 (by decide)
theorem s78 (h : cSs S) : S 78 = (2, 3, 1024) := h 14 (by decide)
theorem s79 (h : cSs S) : S 79 = (2, 3, 1024) := h 15 (by decide)
theorem s80 (h : cSs S) : S 80 = (2, 3, 1024) := h 16 (by decide)
theorem s81 (h : cSs S) : S 81 = (2, 3, 1024) := h 17 (by decide)
theorem s82 (h : cSs S) : S 82 = (2, 4, 4096) := h 18 (by decide)
theorem s83 (h : cSs S) : S 83 = (1, 9, 14) := h 19 (by decide)
theorem s84 (h : cSs S) : S 84 = (2, 4, 8) := h 20 (by decide)
theorem s85 (h : cSs S) : S 85 = (2, 3, 8) := h 21 (by decide)
theorem s86 (h : cSs S) : S 86 = (2, 3, 8) := h 22 (by decide)
theorem s87 (h : cSs S) : S 87 = (2, 3, 9) := h 23 (by decide)
theorem s88 (h : cSs S) : S 88 = (2, 3, 8) := h 24 (by decide)
theorem s89 (h : cSs S) : S 89 = (2, 3, 8) := h 25 (by decide)
theorem s90 (h : cSs S) : S 90 = (2, 3, 8) := h 26 (by decide)
theorem s91 (h : cSs S) : S 91 = (2, 4, 4) := h 27 (by decide)
theorem s92 (h : cSs S) : S 92 = (2, 4, 32) := h 28 (by decide)
theorem s93 (h : cSs S) : S 93 = (1, 10, 18) := h 29 (by decide)
theorem s94 (h : cSs S) : S 94 = (2, 10, 16) := h 30 (by decide)
theorem s95 (h : cSs S) : S 95 = (2, 10, 16) := h 31 (by decide)
theorem s96 (h : cSs S) : S 96 = (2, 10, 16) := h 32 (by decide)
theorem s97 (h : cSs S) : S 97 = (2, 10, 16) := h 33 (by decide)
theorem s98 (h : cSs S) : S 98 = (2, 10, 5) := h 34 (by decide)
theorem s99 (h : cSs S) : S 99 = (1, 5, 4) := h 35 (by decide)
theorem s100 (h : cSs S) : S 100 = (2, 4, 2048) := h 36 (by decide)
theorem s101 (h : cSs S) : S 101 = (2, 3, 512) := h 37 (by decide)
theorem s102 (h : cSs S) : S 102 = (2, 4, 512) := h 38 (by decide)
theorem s103 (h : cSs S) : S 103 = (2, 4, 4) := h 39 (by decide)
theorem s104 (h : cSs S) : S 104 = (2, 4, 4) := h 40 (by decide)
theorem s105 (h : cSs S) : S 105 = (2, 4, 4) := h 41 (by decide)
theorem s106 (h : cSs S) : S 106 = (2, 4, 8) := h 42 (by decide)
theorem s107 (h : cSs S) : S 107 = (2, 3, 3) := h 43 (by decide)
theorem s108 (h : cSs S) : S 108 = (1, 5, 4) := h 44 (by decide)
theorem s109 (h : cSs S) : S 109 = (2, 4, 400) := h 45 (by decide)
theorem s110 (h : cSs S) : S 110 = (2, 3, 100) := h 46 (by decide)
theorem s111 (h : cSs S) : S 111 = (1, 5, 4) := h 47 (by decide)
theorem s112 (h : cSs S) : S 112 = (2, 4, 400) := h 48 (by decide)
theorem s113 (h : cSs S) : S 113 = (2, 3, 100) := h 49 (by decide)
theorem s114 (h : cSs S) : S 114 = (1, 5, 4) := h 50 (by decide)
theorem s115 (h : cSs S) : S 115 = (2, 4, 400) := h 51 (by decide)
theorem s116 (h : cSs S) : S 116 = (2, 3, 100) := h 52 (by decide)
theorem s117 (h : cSs S) : S 117 = (1, 5, 4) := h 53 (by decide)
theorem s118 (h : cSs S) : S 118 = (2, 4, 400) := h 54 (by decide)
theorem s119 (h : cSs S) : S 119 = (2, 3, 100) := h 55 (by decide)
theorem s120 (h : cSs S) : S 120 = (1, 5, 4) := h 56 (by decide)
theorem s121 (h : cSs S) : S 121 = (2, 4, 400) := h 57 (by decide)
theorem s122 (h : cSs S) : S 122 = (2, 3, 100) := h 58 (by decide)
theorem s123 (h : cSs S) : S 123 = (1, 5, 4) := h 59 (by decide)
theorem s124 (h : cSs S) : S 124 = (2, 4, 400) := h 60 (by decide)
theorem s125 (h : cSs S) : S 125 = (2, 3, 100) := h 61 (by decide)
theorem s126 (h : cSs S) : S 126 = (1, 5, 4) := h 62 (by decide)
theorem s127 (h : cSs S) : S 127 = (2, 4, 400) := h 63 (by decide)
theorem s128 (h : cSs S) : S 128 = (2, 3, 100) := h 64 (by decide)
theorem s129 (h : cSs S) : S 129 = (1, 5, 4) := h 65 (by decide)
theorem s130 (h : cSs S) : S 130 = (2, 4, 400) := h 66 (by decide)
theorem s131 (h : cSs S) : S 131 = (2, 3, 100) := h 67 (by decide)
theorem s132 (h : cSs S) : S 132 = (1, 5, 4) := h 68 (by decide)
theorem s133 (h : cSs S) : S 133 = (2, 4, 400) := h 69 (by decide)
theorem s134 (h : cSs S) : S 134 = (2, 3, 100) := h 70 (by decide)
theorem s135 (h : cSs S) : S 135 = (1, 5, 4) := h 71 (by decide)
theorem s136 (h : cSs S) : S 136 = (2, 4, 400) := h 72 (by decide)
theorem s137 (h : cSs S) : S 137 = (2, 3, 100) := h 73 (by decide)
theorem s138 (h : cSs S) : S 138 = (1, 5, 4) := h 74 (by decide)
theorem s139 (h : cSs S) : S 139 = (2, 4, 400) := h 75 (by decide)
theorem s140 (h : cSs S) : S 140 = (2, 3, 100) := h 76 (by decide)
theorem s141 (h : cSs S) : S 141 = (1, 5, 4) := h 77 (by decide)
theorem s142 (h : cSs S) : S 142 = (2, 4, 400) := h 78 (by decide)
theorem s143 (h : cSs S) : S 143 = (2, 3, 100) := h 79 (by decide)
theorem s144 (h : cSs S) : S 144 = (1, 5, 4) := h 80 (by decide)
theorem s145 (h : cSs S) : S 145 = (2, 4, 400) := h 81 (by decide)
theorem s146 (h : cSs S) : S 146 = (2, 3, 100) := h 82 (by decide)
theorem s147 (h : cSs S) : S 147 = (1, 5, 4) := h 83 (by decide)
theorem s148 (h : cSs S) : S 148 = (2, 4, 400) := h 84 (by decide)
theorem s149 (h : cSs S) : S 149 = (2, 3, 100) := h 85 (by decide)
theorem s150 (h : cSs S) : S 150 = (1, 5, 4) := h 86 (by decide)
theorem s151 (h : cSs S) : S 151 = (2, 4, 400) := h 87 (by decide)
theorem s152 (h : cSs S) : S 152 = (2, 3, 100) := h 88 (by decide)
theorem s153 (h : cSs S) : S 153 = (1, 5, 4) := h 89 (by decide)
theorem s154 (h : cSs S) : S 154 = (2, 4, 400) := h 90 (by decide)
theorem s155 (h : cSs S) : S 155 = (2, 3, 100) := h 91 (by decide)
theorem s156 (h : cSs S) : S 156 = (1, 5, 4) := h 92 (by decide)
theorem s157 (h : cSs S) : S 157 = (2, 4, 400) := h 93 (by decide)
theorem s158 (h : cSs S) : S 158 = (2, 3, 100) := h 94 (by decide)
theorem s159 (h : cSs S) : S 159 = (1, 5, 4) := h 95 (by decide)
theorem s160 (h : cSs S) : S 160 = (2, 4, 400) := h 96 (by decide)
theorem s161 (h : cSs S) : S 161 = (2, 3, 100) := h 97 (by decide)
theorem s162 (h : cSs S) : S 162 = (1, 5, 4) := h 98 (by decide)
theorem s163 (h : cSs S) : S 163 = (2, 4, 400) := h 99 (by decide)
theorem s164 (h : cSs S) : S 164 = (2, 3, 100) := h 100 (by decide)
theorem s165 (h : cSs S) : S 165 = (1, 5, 4) := h 101 (by decide)
theorem s166 (h : cSs S) : S 166 = (2, 4, 400) := h 102 (by decide)
theorem s167 (h : cSs S) : S 167 = (2, 3, 100) := h 103 (by decide)
theorem s168 (h : cSs S) : S 168 = (1, 5, 4) := h 104 (by decide)
theorem s169 (h : cSs S) : S 169 = (2, 4, 400) := h 105 (by decide)
theorem s170 (h : cSs S) : S 170 = (2, 3, 100) := h 106 (by decide)
theorem s171 (h : cSs S) : S 171 = (1, 5, 4) := h 107 (by decide)
theorem s172 (h : cSs S) : S 172 = (2, 4, 400) := h 108 (by decide)
theorem s173 (h : cSs S) : S 173 = (2, 3, 100) := h 109 (by decide)
theorem s174 (h : cSs S) : S 174 = (1, 5, 4) := h 110 (by decide)
theorem s175 (h : cSs S) : S 175 = (2, 4, 400) := h 111 (by decide)
theorem s176 (h : cSs S) : S 176 = (2, 3, 100) := h 112 (by decide)
theorem s177 (h : cSs S) : S 177 = (1, 5, 4) := h 113 (by decide)
theorem s178 (h : cSs S) : S 178 = (2, 4, 400) := h 114 (by decide)
theorem s179 (h : cSs S) : S 179 = (2, 3, 100) := h 115 (by decide)
theorem s180 (h : cSs S) : S 180 = (1, 5, 4) := h 116 (by decide)
theorem s181 (h : cSs S) : S 181 = (2, 4, 400) := h 117 (by decide)
theorem s182 (h : cSs S) : S 182 = (2, 3, 100) := h 118 (by decide)
theorem s183 (h : cSs S) : S 183 = (1, 5, 4) := h 119 (by decide)
theorem s184 (h : cSs S) : S 184 = (2, 4, 400) := h 120 (by decide)
theorem s185 (h : cSs S) : S 185 = (2, 3, 100) := h 121 (by decide)
theorem s186 (h : cSs S) : S 186 = (1, 5, 4) := h 122 (by decide)
theorem s187 (h : cSs S) : S 187 = (2, 4, 400) := h 123 (by decide)
theorem s188 (h : cSs S) : S 188 = (2, 3, 100) := h 124 (by decide)
theorem s189 (h : cSs S) : S 189 = (1, 5, 4) := h 125 (by decide)
theorem s190 (h : cSs S) : S 190 = (2, 4, 400) := h 126 (by decide)
theorem s191 (h : cSs S) : S 191 = (2, 3, 100) := h 127 (by decide)
theorem s192 (h : cSs S) : S 192 = (1, 5, 4) := h 128 (by decide)
theorem s193 (h : cSs S) : S 193 = (2, 4, 400) := h 129 (by decide)
theorem s194 (h : cSs S) : S 194 = (2, 3, 100) := h 130 (by decide)
theorem s195 (h : cSs S) : S 195 = (1, 5, 4) := h 131 (by decide)
theorem s196 (h : cSs S) : S 196 = (2, 4, 400) := h 132 (by decide)
theorem s197 (h : cSs S) : S 197 = (2, 3, 100) := h 133 (by decide)
theorem s198 (h : cSs S) : S 198 = (1, 5, 4) := h 134 (by decide)
theorem s199 (h : cSs S) : S 199 = (2, 4, 400) := h 135 (by decide)
theorem s200 (h : cSs S) : S 200 = (2, 3, 100) := h 136 (by decide)
theorem s201 (h : cSs S) : S 201 = (1, 5, 4) := h 137 (by decide)
theorem s202 (h : cSs S) : S 202 = (2, 4, 400) := h 138 (by decide)
theorem s203 (h : cSs S) : S 203 = (2, 3, 100) := h 139 (by decide)
theorem s204 (h : cSs S) : S 204 = (1, 5, 4) := h 140 (by decide)
theorem s205 (h : cSs S) : S 205 = (2, 4, 0) := h 141 (by decide)
theorem s206 (h : cSs S) : S 206 = (2, 3, 0) := h 142 (by decide)
theorem s207 (h : cSs S) : S 207 = (1, 5, 4) := h 143 (by decide)
theorem s208 (h : cSs S) : S 208 = (2, 4, 0) := h 144 (by decide)
theorem s209 (h : cSs S) : S 209 = (2, 3, 0) := h 145 (by decide)
theorem s210 (h : cSs S) : S 210 = (1, 5, 4) := h 146 (by decide)
theorem s211 (h : cSs S) : S 211 = (2, 4, 0) := h 147 (by decide)
theorem s212 (h : cSs S) : S 212 = (2, 3, 0) := h 148 (by decide)
theorem s213 (h : cSs S) : S 213 = (1, 5, 4) := h 149 (by decide)
theorem s214 (h : cSs S) : S 214 = (2, 4, 0) := h 150 (by decide)
theorem s215 (h : cSs S) : S 215 = (2, 3, 0) := h 151 (by decide)
theorem s216 (h : cSs S) : S 216 = (1, 7, 5) := h 152 (by decide)
theorem s217 (h : cSs S) : S 217 = (2, 4, 72) := h 153 (by decide)
theorem s218 (h : cSs S) : S 218 = (2, 4, 72) := h 154 (by decide)
theorem s219 (h : cSs S) : S 219 = (2, 4, 32) := h 155 (by decide)
theorem s220 (h : cSs S) : S 220 = (2, 6, 4) := h 156 (by decide)
theorem s221 (h : cSs S) : S 221 = (1, 5, 4) := h 157 (by decide)
theorem s222 (h : cSs S) : S 222 = (2, 4, 4000) := h 158 (by decide)
theorem s223 (h : cSs S) : S 223 = (2, 3, 500) := h 159 (by decide)
theorem s224 (h : cSs S) : S 224 = (1, 5, 4) := h 160 (by decide)
theorem s225 (h : cSs S) : S 225 = (2, 4, 4000) := h 161 (by decide)
theorem s226 (h : cSs S) : S 226 = (2, 3, 500) := h 162 (by decide)
theorem s227 (h : cSs S) : S 227 = (2, 4, 4) := h 163 (by decide)
theorem s243 (h : cSs S) : S 243 = (1, 1, 14) := h 179 (by decide)
theorem s244 (h : cSs S) : S 244 = (2, 7, 520) := h 180 (by decide)
theorem s245 (h : cSs S) : S 245 = (2, 3, 16) := h 181 (by decide)
theorem s246 (h : cSs S) : S 246 = (2, 3, 72) := h 182 (by decide)
theorem s247 (h : cSs S) : S 247 = (2, 3, 400) := h 183 (by decide)
theorem s248 (h : cSs S) : S 248 = (2, 0, 400) := h 184 (by decide)
theorem s249 (h : cSs S) : S 249 = (2, 4, 1600) := h 185 (by decide)
theorem s250 (h : cSs S) : S 250 = (2, 0, 72) := h 186 (by decide)
theorem s251 (h : cSs S) : S 251 = (2, 5, 72) := h 187 (by decide)
theorem s252 (h : cSs S) : S 252 = (1, 1, 14) := h 188 (by decide)
theorem s253 (h : cSs S) : S 253 = (2, 7, 520) := h 189 (by decide)
theorem s254 (h : cSs S) : S 254 = (2, 3, 16) := h 190 (by decide)
theorem s255 (h : cSs S) : S 255 = (2, 3, 72) := h 191 (by decide)
theorem s256 (h : cSs S) : S 256 = (2, 3, 400) := h 192 (by decide)
theorem s257 (h : cSs S) : S 257 = (2, 0, 400) := h 193 (by decide)
theorem s258 (h : cSs S) : S 258 = (2, 4, 1600) := h 194 (by decide)
theorem s259 (h : cSs S) : S 259 = (2, 0, 72) := h 195 (by decide)
theorem s260 (h : cSs S) : S 260 = (2, 5, 72) := h 196 (by decide)
theorem s261 (h : cSs S) : S 261 = (1, 1, 14) := h 197 (by decide)
theorem s262 (h : cSs S) : S 262 = (2, 7, 520) := h 198 (by decide)
theorem s263 (h : cSs S) : S 263 = (2, 3, 16) := h 199 (by decide)
theorem s264 (h : cSs S) : S 264 = (2, 3, 72) := h 200 (by decide)
theorem s265 (h : cSs S) : S 265 = (2, 3, 400) := h 201 (by decide)
theorem s266 (h : cSs S) : S 266 = (2, 0, 400) := h 202 (by decide)
theorem s267 (h : cSs S) : S 267 = (2, 4, 1600) := h 203 (by decide)
theorem s268 (h : cSs S) : S 268 = (2, 0, 72) := h 204 (by decide)
theorem s269 (h : cSs S) : S 269 = (2, 5, 72) := h 205 (by decide)
theorem s270 (h : cSs S) : S 270 = (1, 1, 14) := h 206 (by decide)
theorem s271 (h : cSs S) : S 271 = (2, 7, 520) := h 207 (by decide)
theorem s272 (h : cSs S) : S 272 = (2, 3, 16) := h 208 (by decide)
theorem s273 (h : cSs S) : S 273 = (2, 3, 72) := h 209 (by decide)
theorem s274 (h : cSs S) : S 274 = (2, 3, 400) := h 210 (by decide)
theorem s275 (h : cSs S) : S 275 = (2, 0, 400) := h 211 (by decide)
theorem s276 (h : cSs S) : S 276 = (2, 4, 1600) := h 212 (by decide)
theorem s277 (h : cSs S) : S 277 = (2, 0, 72) := h 213 (by decide)
theorem s278 (h : cSs S) : S 278 = (2, 5, 72) := h 214 (by decide)
theorem p64_0 (h : cPs G) : G 64 0 = 65 := h (64, 0, 65) (by decide +kernel)
theorem p64_1 (h : cPs G) : G 64 1 = 72 := h (64, 1, 72) (by decide +kernel)
theorem p64_2 (h : cPs G) : G 64 2 = 83 := h (64, 2, 83) (by decide +kernel)
theorem p64_3 (h : cPs G) : G 64 3 = 93 := h (64, 3, 93) (by decide +kernel)
theorem p64_4 (h : cPs G) : G 64 4 = 216 := h (64, 4, 216) (by decide +kernel)
theorem p64_5 (h : cPs G) : G 64 5 = 220 := h (64, 5, 220) (by decide +kernel)
theorem p64_14 (h : cPs G) : G 64 14 = 227 := h (64, 14, 227) (by decide +kernel)
theorem p65_0 (h : cPs G) : G 65 0 = 66 := h (65, 0, 66) (by decide +kernel)
theorem p65_3 (h : cPs G) : G 65 3 = 67 := h (65, 3, 67) (by decide +kernel)
theorem p65_4 (h : cPs G) : G 65 4 = 68 := h (65, 4, 68) (by decide +kernel)
theorem p65_5 (h : cPs G) : G 65 5 = 69 := h (65, 5, 69) (by decide +kernel)
theorem p65_6 (h : cPs G) : G 65 6 = 70 := h (65, 6, 70) (by decide +kernel)
theorem p65_7 (h : cPs G) : G 65 7 = 71 := h (65, 7, 71) (by decide +kernel)
theorem p72_0 (h : cPs G) : G 72 0 = 65 := h (72, 0, 65) (by decide +kernel)
theorem p72_7 (h : cPs G) : G 72 7 = 73 := h (72, 7, 73) (by decide +kernel)
theorem p72_8 (h : cPs G) : G 72 8 = 74 := h (72, 8, 74) (by decide +kernel)
theorem p72_10 (h : cPs G) : G 72 10 = 75 := h (72, 10, 75) (by decide +kernel)
theorem p72_11 (h : cPs G) : G 72 11 = 76 := h (72, 11, 76) (by decide +kernel)
theorem p72_13 (h : cPs G) : G 72 13 = 77 := h (72, 13, 77) (by decide +kernel)
theorem p72_15 (h : cPs G) : G 72 15 = 78 := h (72, 15, 78) (by decide +kernel)
theorem p72_16 (h : cPs G) : G 72 16 = 79 := h (72, 16, 79) (by decide +kernel)
theorem p72_17 (h : cPs G) : G 72 17 = 80 := h (72, 17, 80) (by decide +kernel)
theorem p72_18 (h : cPs G) : G 72 18 = 81 := h (72, 18, 81) (by decide +kernel)
theorem p72_19 (h : cPs G) : G 72 19 = 82 := h (72, 19, 82) (by decide +kernel)
theorem p83_0 (h : cPs G) : G 83 0 = 84 := h (83, 0, 84) (by decide +kernel)
theorem p83_1 (h : cPs G) : G 83 1 = 85 := h (83, 1, 85) (by decide +kernel)
theorem p83_2 (h : cPs G) : G 83 2 = 86 := h (83, 2, 86) (by decide +kernel)
theorem p83_8 (h : cPs G) : G 83 8 = 87 := h (83, 8, 87) (by decide +kernel)
theorem p83_9 (h : cPs G) : G 83 9 = 88 := h (83, 9, 88) (by decide +kernel)
theorem p83_10 (h : cPs G) : G 83 10 = 89 := h (83, 10, 89) (by decide +kernel)
theorem p83_11 (h : cPs G) : G 83 11 = 90 := h (83, 11, 90) (by decide +kernel)
theorem p83_12 (h : cPs G) : G 83 12 = 91 := h (83, 12, 91) (by decide +kernel)
theorem p83_13 (h : cPs G) : G 83 13 = 92 := h (83, 13, 92) (by decide +kernel)
theorem p93_0 (h : cPs G) : G 93 0 = 83 := h (93, 0, 83) (by decide +kernel)
theorem p93_2 (h : cPs G) : G 93 2 = 94 := h (93, 2, 94) (by decide +kernel)
theorem p93_3 (h : cPs G) : G 93 3 = 95 := h (93, 3, 95) (by decide +kernel)
theorem p93_4 (h : cPs G) : G 93 4 = 96 := h (93, 4, 96) (by decide +kernel)
theorem p93_5 (h : cPs G) : G 93 5 = 97 := h (93, 5, 97) (by decide +kernel)
theorem p93_6 (h : cPs G) : G 93 6 = 98 := h (93, 6, 98) (by decide +kernel)
theorem p93_7 (h : cPs G) : G 93 7 = 99 := h (93, 7, 99) (by decide +kernel)
theorem p93_8 (h : cPs G) : G 93 8 = 102 := h (93, 8, 102) (by decide +kernel)
theorem p93_9 (h : cPs G) : G 93 9 = 103 := h (93, 9, 103) (by decide +kernel)
theorem p93_10 (h : cPs G) : G 93 10 = 104 := h (93, 10, 104) (by decide +kernel)
theorem p93_11 (h : cPs G) : G 93 11 = 105 := h (93, 11, 105) (by decide +kernel)
theorem p93_12 (h : cPs G) : G 93 12 = 106 := h (93, 12, 106) (by decide +kernel)
theorem p93_17 (h : cPs G) : G 93 17 = 107 := h (93, 17, 107) (by decide +kernel)
theorem p96_0 (h : cPs G) : G 96 0 = 108 := h (96, 0, 108) (by decide +kernel)
theorem p96_1 (h : cPs G) : G 96 1 = 114 := h (96, 1, 114) (by decide +kernel)
theorem p96_2 (h : cPs G) : G 96 2 = 120 := h (96, 2, 120) (by decide +kernel)
theorem p96_3 (h : cPs G) : G 96 3 = 126 := h (96, 3, 126) (by decide +kernel)
theorem p96_4 (h : cPs G) : G 96 4 = 132 := h (96, 4, 132) (by decide +kernel)
theorem p96_5 (h : cPs G) : G 96 5 = 138 := h (96, 5, 138) (by decide +kernel)
theorem p96_6 (h : cPs G) : G 96 6 = 144 := h (96, 6, 144) (by decide +kernel)
theorem p96_7 (h : cPs G) : G 96 7 = 150 := h (96, 7, 150) (by decide +kernel)
theorem p96_8 (h : cPs G) : G 96 8 = 156 := h (96, 8, 156) (by decide +kernel)
theorem p96_9 (h : cPs G) : G 96 9 = 162 := h (96, 9, 162) (by decide +kernel)
theorem p96_10 (h : cPs G) : G 96 10 = 168 := h (96, 10, 168) (by decide +kernel)
theorem p96_11 (h : cPs G) : G 96 11 = 174 := h (96, 11, 174) (by decide +kernel)
theorem p96_12 (h : cPs G) : G 96 12 = 180 := h (96, 12, 180) (by decide +kernel)
theorem p96_13 (h : cPs G) : G 96 13 = 186 := h (96, 13, 186) (by decide +kernel)
theorem p96_14 (h : cPs G) : G 96 14 = 192 := h (96, 14, 192) (by decide +kernel)
theorem p96_15 (h : cPs G) : G 96 15 = 198 := h (96, 15, 198) (by decide +kernel)
theorem p97_0 (h : cPs G) : G 97 0 = 111 := h (97, 0, 111) (by decide +kernel)
theorem p97_1 (h : cPs G) : G 97 1 = 117 := h (97, 1, 117) (by decide +kernel)
theorem p97_2 (h : cPs G) : G 97 2 = 123 := h (97, 2, 123) (by decide +kernel)
theorem p97_3 (h : cPs G) : G 97 3 = 129 := h (97, 3, 129) (by decide +kernel)
theorem p97_4 (h : cPs G) : G 97 4 = 135 := h (97, 4, 135) (by decide +kernel)
theorem p97_5 (h : cPs G) : G 97 5 = 141 := h (97, 5, 141) (by decide +kernel)
theorem p97_6 (h : cPs G) : G 97 6 = 147 := h (97, 6, 147) (by decide +kernel)
theorem p97_7 (h : cPs G) : G 97 7 = 153 := h (97, 7, 153) (by decide +kernel)
theorem p97_8 (h : cPs G) : G 97 8 = 159 := h (97, 8, 159) (by decide +kernel)
theorem p97_9 (h : cPs G) : G 97 9 = 165 := h (97, 9, 165) (by decide +kernel)
theorem p97_10 (h : cPs G) : G 97 10 = 171 := h (97, 10, 171) (by decide +kernel)
theorem p97_11 (h : cPs G) : G 97 11 = 177 := h (97, 11, 177) (by decide +kernel)
theorem p97_12 (h : cPs G) : G 97 12 = 183 := h (97, 12, 183) (by decide +kernel)
theorem p97_13 (h : cPs G) : G 97 13 = 189 := h (97, 13, 189) (by decide +kernel)
theorem p97_14 (h : cPs G) : G 97 14 = 195 := h (97, 14, 195) (by decide +kernel)
theorem p97_15 (h : cPs G) : G 97 15 = 201 := h (97, 15, 201) (by decide +kernel)
theorem p98_1 (h : cPs G) : G 98 1 = 204 := h (98, 1, 204) (by decide +kernel)
theorem p98_2 (h : cPs G) : G 98 2 = 207 := h (98, 2, 207) (by decide +kernel)
theorem p98_3 (h : cPs G) : G 98 3 = 210 := h (98, 3, 210) (by decide +kernel)
theorem p98_4 (h : cPs G) : G 98 4 = 213 := h (98, 4, 213) (by decide +kernel)
theorem p99_2 (h : cPs G) : G 99 2 = 100 := h (99, 2, 100) (by decide +kernel)
theorem p99_3 (h : cPs G) : G 99 3 = 101 := h (99, 3, 101) (by decide +kernel)
theorem p108_2 (h : cPs G) : G 108 2 = 109 := h (108, 2, 109) (by decide +kernel)
theorem p108_3 (h : cPs G) : G 108 3 = 110 := h (108, 3, 110) (by decide +kernel)
theorem p111_2 (h : cPs G) : G 111 2 = 112 := h (111, 2, 112) (by decide +kernel)
theorem p111_3 (h : cPs G) : G 111 3 = 113 := h (111, 3, 113) (by decide +kernel)
theorem p114_2 (h : cPs G) : G 114 2 = 115 := h (114, 2, 115) (by decide +kernel)
theorem p114_3 (h : cPs G) : G 114 3 = 116 := h (114, 3, 116) (by decide +kernel)
theorem p117_2 (h : cPs G) : G 117 2 = 118 := h (117, 2, 118) (by decide +kernel)
theorem p117_3 (h : cPs G) : G 117 3 = 119 := h (117, 3, 119) (by decide +kernel)
theorem p120_2 (h : cPs G) : G 120 2 = 121 := h (120, 2, 121) (by decide +kernel)
theorem p120_3 (h : cPs G) : G 120 3 = 122 := h (120, 3, 122) (by decide +kernel)
theorem p123_2 (h : cPs G) : G 123 2 = 124 := h (123, 2, 124) (by decide +kernel)
theorem p123_3 (h : cPs G) : G 123 3 = 125 := h (123, 3, 125) (by decide +kernel)
theorem p126_2 (h : cPs G) : G 126 2 = 127 := h (126, 2, 127) (by decide +kernel)
theorem p126_3 (h : cPs G) : G 126 3 = 128 := h (126, 3, 128) (by decide +kernel)
theorem p129_2 (h : cPs G) : G 129 2 = 130 := h (129, 2, 130) (by decide +kernel)
theorem p129_3 (h : cPs G) : G 129 3 = 131 := h (129, 3, 131) (by decide +kernel)
theorem p132_2 (h : cPs G) : G 132 2 = 133 := h (132, 2, 133) (by decide +kernel)
theorem p132_3 (h : cPs G) : G 132 3 = 134 := h (132, 3, 134) (by decide +kernel)
theorem p135_2 (h : cPs G) : G 135 2 = 136 := h (135, 2, 136) (by decide +kernel)
theorem p135_3 (h : cPs G) : G 135 3 = 137 := h (135, 3, 137) (by decide +kernel)
theorem p138_2 (h : cPs G) : G 138 2 = 139 := h (138, 2, 139) (by decide +kernel)
theorem p138_3 (h : cPs G) : G 138 3 = 140 := h (138, 3, 140) (by decide +kernel)
theorem p141_2 (h : cPs G) : G 141 2 = 142 := h (141, 2, 142) (by decide +kernel)
theorem p141_3 (h : cPs G) : G 141 3 = 143 := h (141, 3, 143) (by decide +kernel)
theorem p144_2 (h : cPs G) : G 144 2 = 145 := h (144, 2, 145) (by decide +kernel)
theorem p144_3 (h : cPs G) : G 144 3 = 146 := h (144, 3, 146) (by decide +kernel)
theorem p147_2 (h : cPs G) : G 147 2 = 148 := h (147, 2, 148) (by decide +kernel)
theorem p147_3 (h : cPs G) : G 147 3 = 149 := h (147, 3, 149) (by decide +kernel)
theorem p150_2 (h : cPs G) : G 150 2 = 151 := h (150, 2, 151) (by decide +kernel)
theorem p150_3 (h : cPs G) : G 150 3 = 152 := h (150, 3, 152) (by decide +kernel)
theorem p153_2 (h : cPs G) : G 153 2 = 154 := h (153, 2, 154) (by decide +kernel)
theorem p153_3 (h : cPs G) : G 153 3 = 155 := h (153, 3, 155) (by decide +kernel)
theorem p156_2 (h : cPs G) : G 156 2 = 157 := h (156, 2, 157) (by decide +kernel)
theorem p156_3 (h : cPs G) : G 156 3 = 158 := h (156, 3, 158) (by decide +kernel)
theorem p159_2 (h : cPs G) : G 159 2 = 160 := h (159, 2, 160) (by decide +kernel)
theorem p159_3 (h : cPs G) : G 159 3 = 161 := h (159, 3, 161) (by decide +kernel)
theorem p162_2 (h : cPs G) : G 162 2 = 163 := h (162, 2, 163) (by decide +kernel)
theorem p162_3 (h : cPs G) : G 162 3 = 164 := h (162, 3, 164) (by decide +kernel)
theorem p165_2 (h : cPs G) : G 165 2 = 166 := h (165, 2, 166) (by decide +kernel)
theorem p165_3 (h : cPs G) : G 165 3 = 167 := h (165, 3, 167) (by decide +kernel)
theorem p168_2 (h : cPs G) : G 168 2 = 169 := h (168, 2, 169) (by decide +kernel)
theorem p168_3 (h : cPs G) : G 168 3 = 170 := h (168, 3, 170) (by decide +kernel)
theorem p171_2 (h : cPs G) : G 171 2 = 172 := h (171, 2, 172) (by decide +kernel)
theorem p171_3 (h : cPs G) : G 171 3 = 173 := h (171, 3, 173) (by decide +kernel)
theorem p174_2 (h : cPs G) : G 174 2 = 175 := h (174, 2, 175) (by decide +kernel)
theorem p174_3 (h : cPs G) : G 174 3 = 176 := h (174, 3, 176) (by decide +kernel)
theorem p177_2 (h : cPs G) : G 177 2 = 178 := h (177, 2, 178) (by decide +kernel)
theorem p177_3 (h : cPs G) : G 177 3 = 179 := h (177, 3, 179) (by decide +kernel)
theorem p180_2 (h : cPs G) : G 180 2 = 181 := h (180, 2, 181) (by decide +kernel)
theorem p180_3 (h : cPs G) : G 180 3 = 182 := h (180, 3, 182) (by decide +kernel)
theorem p183_2 (h : cPs G) : G 183 2 = 184 := h (183, 2, 184) (by decide +kernel)
theorem p183_3 (h : cPs G) : G 183 3 = 185 := h (183, 3, 185) (by decide +kernel)
theorem p186_2 (h : cPs G) : G 186 2 = 187 := h (186, 2, 187) (by decide +kernel)
theorem p186_3 (h : cPs G) : G 186 3 = 188 := h (186, 3, 188) (by decide +kernel)
theorem p189_2 (h : cPs G) : G 189 2 = 190 := h (189, 2, 190) (by decide +kernel)
theorem p189_3 (h : cPs G) : G 189 3 = 191 := h (189, 3, 191) (by decide +kernel)
theorem p192_2 (h : cPs G) : G 192 2 = 193 := h (192, 2, 193) (by decide +kernel)
theorem p192_3 (h : cPs G) : G 192 3 = 194 := h (192, 3, 194) (by decide +kernel)
theorem p195_2 (h : cPs G) : G 195 2 = 196 := h (195, 2, 196) (by decide +kernel)
theorem p195_3 (h : cPs G) : G 195 3 = 197 := h (195, 3, 197) (by decide +kernel)
theorem p198_2 (h : cPs G) : G 198 2 = 199 := h (198, 2, 199) (by decide +kernel)
theorem p198_3 (h : cPs G) : G 198 3 = 200 := h (198, 3, 200) (by decide +kernel)
theorem p201_2 (h : cPs G) : G 201 2 = 202 := h (201, 2, 202) (by decide +kernel)
theorem p201_3 (h : cPs G) : G 201 3 = 203 := h (201, 3, 203) (by decide +kernel)
theorem p204_2 (h : cPs G) : G 204 2 = 205 := h (204, 2, 205) (by decide +kernel)
theorem p204_3 (h : cPs G) : G 204 3 = 206 := h (204, 3, 206) (by decide +kernel)
theorem p207_2 (h : cPs G) : G 207 2 = 208 := h (207, 2, 208) (by decide +kernel)
theorem p207_3 (h : cPs G) : G 207 3 = 209 := h (207, 3, 209) (by decide +kernel)
theorem p210_2 (h : cPs G) : G 210 2 = 211 := h (210, 2, 211) (by decide +kernel)
theorem p210_3 (h : cPs G) : G 210 3 = 212 := h (210, 3, 212) (by decide +kernel)
theorem p213_2 (h : cPs G) : G 213 2 = 214 := h (213, 2, 214) (by decide +kernel)
theorem p213_3 (h : cPs G) : G 213 3 = 215 := h (213, 3, 215) (by decide +kernel)
theorem p216_2 (h : cPs G) : G 216 2 = 217 := h (216, 2, 217) (by decide +kernel)
theorem p216_3 (h : cPs G) : G 216 3 = 218 := h (216, 3, 218) (by decide +kernel)
theorem p216_4 (h : cPs G) : G 216 4 = 219 := h (216, 4, 219) (by decide +kernel)
theorem p220_0 (h : cPs G) : G 220 0 = 243 := h (220, 0, 243) (by decide +kernel)
theorem p220_1 (h : cPs G) : G 220 1 = 252 := h (220, 1, 252) (by decide +kernel)
theorem p220_2 (h : cPs G) : G 220 2 = 261 := h (220, 2, 261) (by decide +kernel)
theorem p220_3 (h : cPs G) : G 220 3 = 270 := h (220, 3, 270) (by decide +kernel)
theorem p221_2 (h : cPs G) : G 221 2 = 222 := h (221, 2, 222) (by decide +kernel)
theorem p221_3 (h : cPs G) : G 221 3 = 223 := h (221, 3, 223) (by decide +kernel)
theorem p224_2 (h : cPs G) : G 224 2 = 225 := h (224, 2, 225) (by decide +kernel)
theorem p224_3 (h : cPs G) : G 224 3 = 226 := h (224, 3, 226) (by decide +kernel)
theorem p243_0 (h : cPs G) : G 243 0 = 244 := h (243, 0, 244) (by decide +kernel)
theorem p243_5 (h : cPs G) : G 243 5 = 245 := h (243, 5, 245) (by decide +kernel)
theorem p243_6 (h : cPs G) : G 243 6 = 246 := h (243, 6, 246) (by decide +kernel)
theorem p243_9 (h : cPs G) : G 243 9 = 247 := h (243, 9, 247) (by decide +kernel)
theorem p243_10 (h : cPs G) : G 243 10 = 248 := h (243, 10, 248) (by decide +kernel)
theorem p243_11 (h : cPs G) : G 243 11 = 249 := h (243, 11, 249) (by decide +kernel)
theorem p243_12 (h : cPs G) : G 243 12 = 250 := h (243, 12, 250) (by decide +kernel)
theorem p243_13 (h : cPs G) : G 243 13 = 251 := h (243, 13, 251) (by decide +kernel)
theorem p252_0 (h : cPs G) : G 252 0 = 253 := h (252, 0, 253) (by decide +kernel)
theorem p252_5 (h : cPs G) : G 252 5 = 254 := h (252, 5, 254) (by decide +kernel)
theorem p252_6 (h : cPs G) : G 252 6 = 255 := h (252, 6, 255) (by decide +kernel)
theorem p252_9 (h : cPs G) : G 252 9 = 256 := h (252, 9, 256) (by decide +kernel)
theorem p252_10 (h : cPs G) : G 252 10 = 257 := h (252, 10, 257) (by decide +kernel)
theorem p252_11 (h : cPs G) : G 252 11 = 258 := h (252, 11, 258) (by decide +kernel)
theorem p252_12 (h : cPs G) : G 252 12 = 259 := h (252, 12, 259) (by decide +kernel)
theorem p252_13 (h : cPs G) : G 252 13 = 260 := h (252, 13, 260) (by decide +kernel)
theorem p261_0 (h : cPs G) : G 261 0 = 262 := h (261, 0, 262) (by decide +kernel)
theorem p261_5 (h : cPs G) : G 261 5 = 263 := h (261, 5, 263) (by decide +kernel)
theorem p261_6 (h : cPs G) : G 261 6 = 264 := h (261, 6, 264) (by decide +kernel)
theorem p261_9 (h : cPs G) : G 261 9 = 265 := h (261, 9, 265) (by decide +kernel)
theorem p261_10 (h : cPs G) : G 261 10 = 266 := h (261, 10, 266) (by decide +kernel)
theorem p261_11 (h : cPs G) : G 261 11 = 267 := h (261, 11, 267) (by decide +kernel)
theorem p261_12 (h : cPs G) : G 261 12 = 268 := h (261, 12, 268) (by decide +kernel)
theorem p261_13 (h : cPs G) : G 261 13 = 269 := h (261, 13, 269) (by decide +kernel)
theorem p270_0 (h : cPs G) : G 270 0 = 271 := h (270, 0, 271) (by decide +kernel)
theorem p270_5 (h : cPs G) : G 270 5 = 272 := h (270, 5, 272) (by decide +kernel)
theorem p270_6 (h : cPs G) : G 270 6 = 273 := h (270, 6, 273) (by decide +kernel)
theorem p270_9 (h : cPs G) : G 270 9 = 274 := h (270, 9, 274) (by decide +kernel)
theorem p270_10 (h : cPs G) : G 270 10 = 275 := h (270, 10, 275) (by decide +kernel)
theorem p270_11 (h : cPs G) : G 270 11 = 276 := h (270, 11, 276) (by decide +kernel)
theorem p270_12 (h : cPs G) : G 270 12 = 277 := h (270, 12, 277) (by decide +kernel)
theorem p270_13 (h : cPs G) : G 270 13 = 278 := h (270, 13, 278) (by decide +kernel)
end
end
section
/-! THE CLASS: its TAPE -/
/-- where a reference stands that never changes -/
def cPz (a i : Nat) : Prop := (a = 64 ∧ (i ≤ 5 ∨ i = 14)) ∨ (a = 65 ∧ (i = 0 ∨ 3 ≤ i)) ∨ (a = 72 ∧ (i = 0 ∨ 7 ≤ i ∧ i ≤ 8 ∨ 10 ≤ i ∧ i ≤ 11 ∨ i = 13 ∨ 15 ≤ i)) ∨ (a = 83 ∧ (i ≤ 2 ∨ 8 ≤ i)) ∨ (a = 93 ∧ (i = 0 ∨ 2 ≤ i ∧ i ≤ 12 ∨ i = 17)) ∨ (96 ≤ a ∧ a ≤ 98) ∨ (a = 99 ∧ 2 ≤ i) ∨ (108 ≤ a ∧ a ≤ 215 ∧ 2 ≤ i ∧ ∃ k, a = 108 + 3 * k) ∨ (a = 216 ∧ 2 ≤ i) ∨ a = 220 ∨ ((a = 221 ∨ a = 224) ∧ 2 ≤ i) ∨ (∃ k, k < 4 ∧ a = 243 + 9 * k ∧ (i = 0 ∨ 5 ≤ i ∧ i ≤ 6 ∨ 9 ≤ i))
theorem cl_P_z : ∀ q, q ∈ cl_P → cPz q.1 q.2.1 := by
  intro q hq
  have key : ∀ q ∈ cl_P, (q.1 = 64 ∧ (q.2.1 ≤ 5 ∨ q.2.1 = 14)) ∨ (q.1 = 65 ∧ (q.2.1 = 0 ∨ 3 ≤ q.2.1)) ∨ (q.1 = 72 ∧ (q.2.1 = 0 ∨ 7 ≤ q.2.1 ∧ q.2.1 ≤ 8 ∨ 10 ≤ q.2.1 ∧ q.2.1 ≤ 11 ∨ q.2.1 = 13 ∨ 15 ≤ q.2.1)) ∨ (q.1 = 83 ∧ (q.2.1 ≤ 2 ∨ 8 ≤ q.2.1)) ∨ (q.1 = 93 ∧ (q.2.1 = 0 ∨ 2 ≤ q.2.1 ∧ q.2.1 ≤ 12 ∨ q.2.1 = 17)) ∨ (96 ≤ q.1 ∧ q.1 ≤ 98) ∨ (q.1 = 99 ∧ 2 ≤ q.2.1) ∨ (108 ≤ q.1 ∧ q.1 ≤ 215 ∧ 2 ≤ q.2.1 ∧ (q.1 - 108) % 3 = 0) ∨ (q.1 = 216 ∧ 2 ≤ q.2.1) ∨ q.1 = 220 ∨ ((q.1 = 221 ∨ q.1 = 224) ∧ 2 ≤ q.2.1) ∨ (243 ≤ q.1 ∧ q.1 ≤ 270 ∧ (q.1 - 243) % 9 = 0 ∧ (q.2.1 = 0 ∨ 5 ≤ q.2.1 ∧ q.2.1 ≤ 6 ∨ 9 ≤ q.2.1)) := by decide +kernel
  unfold cPz
  rcases key q hq with h | h | h | h | h | h | h | h | h | h | h | h
  · exact .inl h
  · exact .inr (.inl h)
  · exact .inr (.inr (.inl h))
  · exact .inr (.inr (.inr (.inl h)))
  · exact .inr (.inr (.inr (.inr (.inl h))))
  · exact .inr (.inr (.inr (.inr (.inr (.inl h)))))
  · exact .inr (.inr (.inr (.inr (.inr (.inr (.inl h))))))
  · exact .inr (.inr (.inr (.inr (.inr (.inr (.inr (.inl ⟨h.1, h.2.1, h.2.2.1, (q.1 - 108) / 3, by omega⟩)))))))
  · exact .inr (.inr (.inr (.inr (.inr (.inr (.inr (.inr (.inl h))))))))
  · exact .inr (.inr (.inr (.inr (.inr (.inr (.inr (.inr (.inr (.inl h)))))))))
  · exact .inr (.inr (.inr (.inr (.inr (.inr (.inr (.inr (.inr (.inr (.inl h))))))))))
  · exact .inr (.inr (.inr (.inr (.inr (.inr (.inr (.inr (.inr (.inr (.inr ⟨(q.1 - 243) / 9, by omega, by omega, h.2.2.2⟩))))))))))
theorem cPs.ge {G G' : xG_} (h : cPs G) (hf : ∀ a j, cPz a j → G' a j = G a j) : cPs G' := fun q hq => by
  rw [hf _ _ (cl_P_z q hq)]
  exact h q hq
/-- cells of the TAPE alone change -/
theorem cPs.tape {G G' : xG_} (h : cPs G) (hf : ∀ a j, ¬ (a = 65 ∧ 1 ≤ j ∧ j ≤ 2) → ¬ (66 ≤ a ∧ a ≤ 71) → G' a j = G a j) : cPs G' := h.ge (fun a j hz => hf a j (by
  rcases hz with z | z | z | z | z | z | z | ⟨z, z1, z2, k, z3⟩ | z | z | z | ⟨k, z1, z2, z3⟩ <;> omega) (by
  rcases hz with z | z | z | z | z | z | z | ⟨z, z1, z2, k, z3⟩ | z | z | z | ⟨k, z1, z2, z3⟩ <;> omega))
section
variable {f : Nat} {S : Nat → Nat × Nat × Nat} {m : Nat × Nat}
theorem k_120 {G : xG_} {k a b c : Int} {t : Nat} (hs : cSs S) (hp : cPs G) (ht : G 65 2 = (t : Int)) (h : t < 3001) : c120 f 65 k a b c (S, G, m) = some (S, xup2 (xup2 (xup2 (xup2 (xup2 G 67 t k) 68 t a) 69 t b) 70 t c) 65 2 ((t + 1 : Nat) : Int), m) := by
  have e : xwr ((t : Int) + 1) = ((t + 1 : Nat) : Int) := by rw [xwr_g _ (by omega) (by omega)]; omega
  unfold c120
  simp (disch := omega) only [cq_gi, cq_gr, cq_a, cq_s, cq_p, cq_pr, cq_is, cq_ar, cq_ab, cq_ln, xq_nz, Option.bind_some, xup2_n, xup2_s, Int.toNat_natCast, Int.reduceToNat, if_pos, if_neg, true_and, and_true, and_self, eq_self, if_true, reduceIte, not_true_eq_false, not_false_eq_true, or_true, true_or, s65 hs, s67 hs, s68 hs, s69 hs, s70 hs, p65_3 hp, p65_4 hp, p65_5 hp, p65_6 hp, ht, e]
end
end
section
/-! THE CLASS: the signs of the TAPE -/
/-- the TAPE holds the text B of n bytes -/
def cTx (G : xG_) (B : Nat → Int) (n : Nat) : Prop := G 65 1 = (n : Int) ∧ n ≤ 3000 ∧ tTx B n ∧ ∀ p, p < n → G 66 p = B p
theorem cTx.ge {G G' : xG_} {B : Nat → Int} {n : Nat} (h : cTx G B n) (h0 : G' 65 1 = G 65 1) (h1 : ∀ p, G' 66 p = G 66 p) : cTx G' B n := ⟨by rw [h0]; exact h.1, h.2.1, h.2.2.1, fun p hp => by rw [h1]; exact h.2.2.2 p hp⟩
section
variable {f n : Nat} {S : Nat → Nat × Nat × Nat} {G : xG_} {m : Nat × Nat} {B : Nat → Int}
theorem k_113_53 {r4 : Nat → Int → Int → xT_ → Option (Int × xT_)} {x2 x3 x4 y0 : Int} {T : xT_} : c113_53 r4 f 65 x2 x3 x4 y0 T = if x4 ≠ 10 ∧ (x2 ≠ 0 ∨ x4 = 35) then r4 65 1 (xwr (x3 + 1)) T else if y0 ≠ 0 then r4 65 0 (xwr (x3 + 1)) T else some (x3, T) := by
  unfold c113_53 c113_77 c113_73 c113_78 c113_90
  by_cases c1 : x4 = 10
  · simp only [c1, ne_eq, not_true_eq_false, false_and, if_false, if_true, ite_not]
  · by_cases c2 : x2 = 0
    · by_cases c3 : x4 = 35
      · simp [c2, c3]
      · simp [c1, c2, c3]
    · simp [c1, c2]
theorem k_113_4 (hs : cSs S) (hp : cPs G) (hB : cTx G B n) : ∀ (d p fu : Nat) (r : Bool), p + d = n → d < fu → c113_4 f fu 65 (b01 r) (p : Int) (S, G, m) = some ((tsk B n r p : Int), (S, G, m)) := by
  obtain ⟨b1, b2, b3, b4⟩ := hB
  intro d
  induction d with
  | zero =>
    intro p fu r h1 h2
    obtain ⟨fu, rfl⟩ : ∃ t, fu = t + 1 := ⟨fu - 1, by omega⟩
    show c113_4b (c113_4 f fu) f 65 _ _ _ = _
    unfold c113_4b
    rw [tsk_eq b3 r (by omega), if_pos (b3.neg.mpr (by omega))]
    simp (disch := omega) only [cq_gi, cq_gr, cq_a, cq_s, cq_p, cq_pr, cq_is, cq_ar, cq_ab, cq_ln, xq_nz, Option.bind_some, xup2_n, xup2_s, Int.toNat_natCast, Int.reduceToNat, if_pos, if_neg, true_and, and_true, and_self, eq_self, if_true, reduceIte, not_true_eq_false, not_false_eq_true, or_true, true_or, s65 hs, b1]
    rw [show n = p by omega]
  | succ d ih =>
    intro p fu r h1 h2
    obtain ⟨fu, rfl⟩ : ∃ t, fu = t + 1 := ⟨fu - 1, by omega⟩
    have hlt : p < n := by omega
    have hb := b4 p hlt
    have hr := (b3 p).1 hlt
    have ep : xwr ((p : Int) + 1) = ((p + 1 : Nat) : Int) := by rw [xwr_g _ (by omega) (by omega)]; omega
    show c113_4b (c113_4 f fu) f 65 _ _ _ = _
    unfold c113_4b c113_48
    rw [tsk_eq b3 r (by omega), if_neg (by omega)]
    simp (disch := omega) only [cq_gi, cq_gr, cq_a, cq_s, cq_p, cq_pr, cq_is, cq_ar, cq_ab, cq_ln, xq_nz, Option.bind_some, xup2_n, xup2_s, Int.toNat_natCast, Int.reduceToNat, if_pos, if_neg, true_and, and_true, and_self, eq_self, if_true, reduceIte, not_true_eq_false, not_false_eq_true, or_true, true_or, s65 hs, s66 hs, p65_0 hp, b1, hb]
    have e1 := ih (p + 1) fu true (by omega) (by omega)
    have e2 := ih (p + 1) fu false (by omega) (by omega)
    have b1' : b01 true = 1 := rfl
    have b0' : b01 false = 0 := rfl
    rw [b1'] at e1
    rw [b0'] at e2
    have hr0 : b01 r ≠ 0 ↔ r = true := by cases r <;> decide
    simp only [k_113_53, ep, e1, e2]
    by_cases cA : B p ≠ 10 ∧ (r = true ∨ B p = 35)
    · have cA' : B p ≠ 10 ∧ (b01 r ≠ 0 ∨ B p = 35) := ⟨cA.1, cA.2.imp hr0.mpr id⟩
      simp only [if_pos cA, if_pos cA']
      split
      · rfl
      split
      · rfl
      split
      · rfl
      split <;> rfl
    · have cA' : ¬ (B p ≠ 10 ∧ (b01 r ≠ 0 ∨ B p = 35)) := fun q => cA ⟨q.1, q.2.imp hr0.mp id⟩
      simp only [if_neg cA, if_neg cA']
      by_cases cB : tBl (B p)
      · simp only [if_pos cB]
        by_cases d1 : B p = 9
        · rw [if_pos d1, if_pos (by decide)]
        rw [if_neg d1]
        by_cases d2 : B p = 10
        · rw [if_pos d2, if_pos (by decide)]
        rw [if_neg d2]
        by_cases d3 : B p = 13
        · rw [if_pos d3, if_pos (by decide)]
        rw [if_neg d3, if_neg (fun q => q (by omega)), if_pos (by decide)]
      · simp only [if_neg cB]
        rw [if_neg (fun q => cB (.inl q)), if_neg (fun q => cB (.inr (.inl q))), if_neg (fun q => cB (.inr (.inr (.inl q)))), if_pos (fun q => cB (.inr (.inr (.inr q)))), if_neg (by decide)]
theorem k_113 (hs : cSs S) (hp : cPs G) (hB : cTx G B n) (hf : 3001 < f) {p : Nat} (hle : p ≤ n) : c113 f 65 (p : Int) (S, G, m) = some ((tsk B n false p : Int), (S, G, m)) := k_113_4 hs hp hB (n - p) p f false (by omega) (by have := hB.2.1; omega)
theorem k_121 {c : Int} {T : xT_} : c121 f c T = some (if tSm c then 1 else 0, T) := by
  unfold c121 c121_16 c121_17
  by_cases c1 : c < 97
  · rw [if_pos c1, if_pos (by decide), if_neg (by omega)]
  · rw [if_neg c1]
    by_cases c2 : 122 < c
    · rw [if_pos c2, if_pos (by decide), if_neg (by omega)]
    · rw [if_neg c2, if_pos (by decide), if_pos (by omega)]
theorem k_122 {c : Int} {T : xT_} : c122 f c T = some (if tGr c then 1 else 0, T) := by
  unfold c122 c122_16 c122_17
  by_cases c1 : c < 65
  · rw [if_pos c1, if_pos (by decide), if_neg (by omega)]
  · rw [if_neg c1]
    by_cases c2 : 90 < c
    · rw [if_pos c2, if_pos (by decide), if_neg (by omega)]
    · rw [if_neg c2, if_pos (by decide), if_pos (by omega)]
theorem k_123 {c : Int} {T : xT_} : c123 f c T = some (if tDi c then 1 else 0, T) := by
  unfold c123 c123_16 c123_17
  by_cases c1 : c < 48
  · rw [if_pos c1, if_pos (by decide), if_neg (by omega)]
  · rw [if_neg c1]
    by_cases c2 : 57 < c
    · rw [if_pos c2, if_pos (by decide), if_neg (by omega)]
    · rw [if_neg c2, if_pos (by decide), if_pos (by omega)]
end
end
section
/-! THE CLASS: words and CELLS of the TAPE -/
def wL (x : Nat) : Nat := (xj_sB (x - 1)).length
def wS (x j : Nat) : Int := xand ((xj_sB (x - 1)).getD j 0).toInt 255
/-- a run of signs is a word -/
def spl (B : Nat → Int) (s e x : Nat) : Prop := e - s = wL x ∧ ∀ j, j < wL x → B (s + j) = wS x j
section
variable {f n : Nat} {S : Nat → Nat × Nat × Nat} {G : xG_} {m : Nat × Nat} {B : Nat → Int}
theorem wL_le {x : Nat} (hx : 1 ≤ x ∧ x ≤ 10) : wL x ≤ 13 := by
  have : ∀ y : Fin 11, wL y.val ≤ 13 := by decide
  exact this ⟨x, by omega⟩
theorem k_116_15 (hs : cSs S) (hp : cPs G) (hB : cTx G B n) {s x : Nat} (hx : 1 ≤ x ∧ x ≤ 10) (hn : s + wL x ≤ n) : ∀ (d j fu : Nat), j + d = wL x → d < fu → (∀ i, i < j → B (s + i) = wS x i) → ∃ b, c116_15 f fu 65 (s : Int) x (j : Int) (S, G, m) = some (b, (S, G, m)) ∧ isB b (∀ i, i < wL x → B (s + i) = wS x i) := by
  obtain ⟨b1, b2, b3, b4⟩ := hB
  have hl := wL_le hx
  have e1 : xq_st x = some () := by unfold xq_st; rw [if_pos hx]
  have e2 : xcsl x = some (wL x : Int) := by unfold xcsl; rw [if_pos hx]; rfl
  intro d
  induction d with
  | zero =>
    intro j fu h1 h2 h3
    obtain ⟨fu, rfl⟩ : ∃ t, fu = t + 1 := ⟨fu - 1, by omega⟩
    refine ⟨1, ?_, .inl ⟨rfl, fun i hi => h3 i (by omega)⟩⟩
    show c116_15b (c116_15 f fu) f 65 _ _ _ _ = _
    unfold c116_15b
    simp (disch := omega) only [cq_gi, cq_gr, cq_a, cq_s, cq_p, cq_pr, cq_is, cq_ar, cq_ab, cq_ln, xq_nz, Option.bind_some, xup2_n, xup2_s, Int.toNat_natCast, Int.reduceToNat, if_pos, if_neg, true_and, and_true, and_self, eq_self, if_true, reduceIte, not_true_eq_false, not_false_eq_true, or_true, true_or, e1, e2]
  | succ d ih =>
    intro j fu h1 h2 h3
    obtain ⟨fu, rfl⟩ : ∃ t, fu = t + 1 := ⟨fu - 1, by omega⟩
    have hb := b4 (s + j) (by omega)
    have e3 : xcsa x (j : Int) = some (wS x j) := by
      unfold xcsa
      rw [if_pos ⟨hx.1, hx.2, by omega, by show (j : Int) < (wL x : Int); omega⟩, Int.toNat_natCast]
      rfl
    have ej : xwr ((j : Int) + 1) = ((j + 1 : Nat) : Int) := by rw [xwr_g _ (by omega) (by omega)]; omega
    have es : xwr ((s : Int) + (j : Int)) = ((s + j : Nat) : Int) := by rw [xwr_g _ (by omega) (by omega)]; omega
    have e4 : c116_15 f (fu + 1) 65 (s : Int) x (j : Int) (S, G, m) = if B (s + j) = wS x j then c116_15 f fu 65 (s : Int) x ((j + 1 : Nat) : Int) (S, G, m) else some (0, (S, G, m)) := by
      show c116_15b (c116_15 f fu) f 65 _ _ _ _ = _
      unfold c116_15b
      simp (disch := omega) only [cq_gi, cq_gr, cq_a, cq_s, cq_p, cq_pr, cq_is, cq_ar, cq_ab, cq_ln, xq_nz, Option.bind_some, xup2_n, xup2_s, Int.toNat_natCast, Int.reduceToNat, if_pos, if_neg, true_and, and_true, and_self, eq_self, if_true, reduceIte, not_true_eq_false, not_false_eq_true, or_true, true_or, e1, e2, e3, es, ej, s65 hs, s66 hs, p65_0 hp, hb]
    by_cases c : B (s + j) = wS x j
    · rw [if_pos c] at e4
      rw [e4]
      refine ih (j + 1) fu (by omega) (by omega) (fun i hi => ?_)
      by_cases ci : i = j
      · rw [ci]; exact c
      · exact h3 i (by omega)
    · rw [if_neg c] at e4
      exact ⟨0, e4, .inr ⟨rfl, fun q => c (q j (by omega))⟩⟩
theorem k_116 (hs : cSs S) (hp : cPs G) (hB : cTx G B n) (hf : 100 < f) {s e x : Nat} (hx : 1 ≤ x ∧ x ≤ 10) (hse : s ≤ e) (hn : e ≤ n) : ∃ b, c116 f 65 (s : Int) (e : Int) x (S, G, m) = some (b, (S, G, m)) ∧ isB b (spl B s e x) := by
  have hl := wL_le hx
  have hn3 := hB.2.1
  have e1 : xq_st x = some () := by unfold xq_st; rw [if_pos hx]
  have e2 : xcsl x = some (wL x : Int) := by unfold xcsl; rw [if_pos hx]; rfl
  have es : xwr ((e : Int) - (s : Int)) = ((e - s : Nat) : Int) := by rw [xwr_g _ (by omega) (by omega)]; omega
  have e3 : c116 f 65 (s : Int) (e : Int) x (S, G, m) = if ((e - s : Nat) : Int) = (wL x : Int) then c116_15 f f 65 (s : Int) x 0 (S, G, m) else some (0, (S, G, m)) := by
    unfold c116
    rw [e1, Option.bind_some, e2, Option.bind_some, es]
  by_cases c : e - s = wL x
  · rw [if_pos (by omega)] at e3
    obtain ⟨b, k1, k2⟩ := k_116_15 (f := f) (m := m) hs hp hB (s := s) hx (by omega) (wL x) 0 f (by omega) (by omega) (fun i hi => absurd hi (Nat.not_lt_zero i))
    refine ⟨b, by rw [e3]; exact k1, ?_⟩
    rcases k2 with ⟨q1, q2⟩ | ⟨q1, q2⟩
    · exact .inl ⟨q1, c, q2⟩
    · exact .inr ⟨q1, fun q => q2 q.2⟩
  · rw [if_neg (by omega)] at e3
    exact ⟨0, e3, .inr ⟨rfl, fun q => c q.1⟩⟩
/-- a NAME's number tells the word -/
theorem xdig_inj {a b : Int} (ha : tNm a) (hb : tNm b) (h : xdig a = xdig b) : a = b := by
  unfold xdig at h
  unfold tNm tSm tDi at ha hb
  repeat' split at h
  all_goals omega
theorem xdig_in {a : Int} (ha : tNm a) : 1 ≤ xdig a ∧ xdig a < 38 := by
  unfold xdig
  unfold tNm tSm tDi at ha
  repeat' split
  all_goals omega
theorem spl_code {s e x : Nat} (hx : ∀ j, j < wL x → tNm (wS x j)) (hl : wL x < 12) (hN : ∀ j, s ≤ j → j < e → tNm (B j)) : spl B s e x ↔ tncode B s e = tenc 38 xdig (wS x) 0 (wL x) := by
  constructor
  · rintro ⟨h1, h2⟩
    unfold tncode
    rw [h1, Nat.min_eq_left (by omega)]
    have : ∀ k, k ≤ wL x → tenc 38 xdig B s k = tenc 38 xdig (wS x) 0 k := by
      intro k
      induction k with
      | zero => intro _; rfl
      | succ k ih =>
        intro hk
        rw [tenc_s, tenc_s, ih (by omega), h2 k (by omega), Nat.zero_add]
    exact this _ (Nat.le_refl _)
  · intro h
    unfold tncode at h
    obtain ⟨k1, k2⟩ := tenc_inj (b := 38) (d := xdig) (B := B) (s := s) (t := 0) (C := wS x) (min (e - s) 12) (wL x) (fun j hj => xdig_in (hN _ (by omega) (by omega))) (fun j hj => by rw [Nat.zero_add]; exact xdig_in (hx j hj)) h
    refine ⟨by omega, fun j hj => ?_⟩
    have := k2 j (by omega)
    rw [Nat.zero_add] at this
    exact xdig_inj (hN _ (by omega) (by omega)) (hx j hj) this
theorem wS_nm : ∀ x, 1 ≤ x → x ≤ 8 → (∀ j, j < wL x → tNm (wS x j)) ∧ wL x < 12 := by
  have : ∀ y : Fin 9, 1 ≤ y.val → (∀ j : Fin 12, j.val < wL y.val → tNm (wS y.val j.val)) ∧ wL y.val < 12 := by decide +kernel
  intro x h1 h2
  obtain ⟨a, b⟩ := this ⟨x, by omega⟩ h1
  have b' : wL x < 12 := b
  exact ⟨fun j hj => a ⟨j, by omega⟩ hj, b'⟩
theorem wS_code : tenc 38 xdig (wS 1) 0 (wL 1) = 19558354 ∧ tenc 38 xdig (wS 2) 0 (wL 2) = 1233436738 ∧ tenc 38 xdig (wS 3) 0 (wL 3) = 16099 ∧ tenc 38 xdig (wS 4) 0 (wL 4) = 20806 ∧ tenc 38 xdig (wS 5) 0 (wL 5) = 7109364 ∧ tenc 38 xdig (wS 6) 0 (wL 6) = 28247 ∧ tenc 38 xdig (wS 7) 0 (wL 7) = 25298178 ∧ tenc 38 xdig (wS 8) 0 (wL 8) = 735738 := by decide +kernel
theorem k_115 (hs : cSs S) (hp : cPs G) (hB : cTx G B n) (hf : 100 < f) {s e : Nat} (hse : s ≤ e) (hn : e ≤ n) (hN : ∀ j, s ≤ j → j < e → tNm (B j)) : c115 f 65 (s : Int) (e : Int) (S, G, m) = some (tres (tncode B s e), (S, G, m)) := by
  have his : cq_is 8 8 65 (S, G, m) = some () := by unfold cq_is; rw [if_pos (s65 hs)]
  have w : ∀ (x : Nat) (c : Int), 1 ≤ x → x ≤ 8 → tenc 38 xdig (wS x) 0 (wL x) = c → c116 f 65 (s : Int) (e : Int) x (S, G, m) = some (if tncode B s e = c then 1 else 0, (S, G, m)) := fun x c h1 h2 h3 => by
    obtain ⟨b, k1, k2⟩ := k_116 (f := f) (m := m) hs hp hB hf (x := x) (by omega) hse hn
    rw [k1]
    have hi := spl_code (B := B) (s := s) (e := e) (wS_nm x h1 h2).1 (wS_nm x h1 h2).2 hN
    rw [h3] at hi
    rcases k2 with ⟨q1, q2⟩ | ⟨q1, q2⟩
    · rw [if_pos (hi.mp q2), q1]
    · rw [if_neg (fun q => q2 (hi.mpr q)), q1]
  obtain ⟨c1, c2, c3, c4, c5, c6, c7, c8⟩ := wS_code
  have i0 : ∀ {α : Type} {P : Prop} [Decidable P] {x y : α}, (if (if P then (1 : Int) else 0) = 0 then x else y) = if P then y else x := by
    intro α P _ x y
    by_cases h : P
    · rw [if_pos h, if_pos h, if_neg (by decide)]
    · rw [if_neg h, if_neg h, if_pos rfl]
  unfold c115 c115_129 tres
  simp only [his, Option.bind_some, w 1 _ (by decide) (by decide) c1, w 2 _ (by decide) (by decide) c2, w 3 _ (by decide) (by decide) c3, w 4 _ (by decide) (by decide) c4, w 5 _ (by decide) (by decide) c5, w 6 _ (by decide) (by decide) c6, w 7 _ (by decide) (by decide) c7, w 8 _ (by decide) (by decide) c8, i0]
  repeat' split
  all_goals rfl
/-- wordOf -/
theorem tword_b {s e : Nat} : ∀ k, (∀ j, j < k → s + j < e → tSm (B (s + j))) → 0 ≤ tword B s e k ∧ tword B s e k < 27 ^ k := by
  intro k
  induction k with
  | zero => intro _; exact ⟨Int.le_refl _, show (0 : Int) < 1 by decide⟩
  | succ k ih =>
    intro h
    obtain ⟨h1, h2⟩ := ih (fun j hj => h j (by omega))
    have e1 : tword B s e (k + 1) = tword B s e k * 27 + (if s + k < e then B (s + k) - 96 else 0) := rfl
    have e2 : (27 : Int) ^ (k + 1) = 27 ^ k * 27 := Int.pow_succ 27 k
    rw [e1, e2]
    split
    · rename_i c
      have := h k (by omega) c
      unfold tSm at this
      omega
    · omega
theorem k_127_5 (hs : cSs S) (hp : cPs G) (hB : cTx G B n) {s e : Nat} (hse : s ≤ e) (hn : e ≤ n) (h0 : ∀ j, s ≤ j → j < e → B j ≠ 0) : ∀ (d i fu : Nat), i + d = 8 → d < fu → (∀ j, j < i → s + j < e → tSm (B (s + j))) → c127_5 f fu 65 (s : Int) ((e - s : Nat) : Int) (tword B s e i) (i : Int) (S, G, m) = some (tsens B s e, (S, G, m)) := by
  obtain ⟨b1, b2, b3, b4⟩ := hB
  intro d
  induction d with
  | zero =>
    intro i fu h1 h2 h3
    obtain ⟨fu, rfl⟩ : ∃ t, fu = t + 1 := ⟨fu - 1, by omega⟩
    have ei : i = 8 := by omega
    subst ei
    obtain ⟨w1, w2⟩ := tword_b 8 h3
    have w3 : (27 : Int) ^ 8 = 282429536481 := by decide
    have ew : xwl (2000000000000 + tword B s e 8) = 2000000000000 + tword B s e 8 := xwl_g _ (by omega) (by omega)
    show c127_5b (c127_5 f fu) f 65 _ _ _ _ _ = _
    unfold c127_5b c127_97 tsens
    rw [if_pos (by decide), ew]
    by_cases c : e - s ≤ 8
    · rw [if_pos (by omega), if_pos ⟨fun i hi => h3 i (by omega) (by omega), c⟩]
    · rw [if_neg (by omega), if_neg (fun q => c q.2)]
  | succ d ih =>
    intro i fu h1 h2 h3
    obtain ⟨fu, rfl⟩ : ∃ t, fu = t + 1 := ⟨fu - 1, by omega⟩
    obtain ⟨w1, w2⟩ := tword_b i h3
    have w3 : (27 : Int) ^ i ≤ 27 ^ 8 := by
      have : ∀ y : Fin 9, (27 : Int) ^ y.val ≤ 27 ^ 8 := by decide
      exact this ⟨i, by omega⟩
    have w4 : (27 : Int) ^ 8 = 282429536481 := by decide
    have ei : xwr ((i : Int) + 1) = ((i + 1 : Nat) : Int) := by rw [xwr_g _ (by omega) (by omega)]; omega
    have em : xwl (tword B s e i * 27) = tword B s e i * 27 := xwl_g _ (by omega) (by omega)
    have es : xwr ((s : Int) + (i : Int)) = ((s + i : Nat) : Int) := by rw [xwr_g _ (by omega) (by omega)]; omega
    have et : tword B s e (i + 1) = tword B s e i * 27 + (if s + i < e then B (s + i) - 96 else 0) := rfl
    show c127_5b (c127_5 f fu) f 65 _ _ _ _ _ = _
    unfold c127_5b c127_31 c127_50 c127_71
    rw [if_neg (by omega)]
    by_cases c : e - s ≤ i
    · rw [if_pos (by omega), if_pos rfl, if_neg (fun q => q rfl), em, ei, xwl_g _ (by omega) (by omega)]
      rw [if_neg (by omega)] at et
      rw [← et]
      exact ih (i + 1) fu (by omega) (by omega) (fun j hj hj2 => h3 j (by omega) hj2)
    · have hlt : s + i < n := by omega
      have hb := b4 _ hlt
      have hbr := (b3 (s + i)).1 hlt
      have hb0 := h0 (s + i) (by omega) (by omega)
      rw [if_neg (by omega)]
      simp (disch := omega) only [cq_gi, cq_gr, cq_a, cq_s, cq_p, cq_pr, cq_is, cq_ar, cq_ab, cq_ln, xq_nz, Option.bind_some, xup2_n, xup2_s, Int.toNat_natCast, Int.reduceToNat, if_pos, if_neg, true_and, and_true, and_self, eq_self, if_true, reduceIte, not_true_eq_false, not_false_eq_true, or_true, true_or, s65 hs, s66 hs, p65_0 hp, es, hb, k_121]
      by_cases cs : tSm (B (s + i))
      · rw [if_pos cs, if_pos (by decide), em, ei]
        unfold tSm at cs
        rw [xwr_g (B (s + i) - 97) (by omega) (by omega), xwr_g _ (by omega) (by omega), xwl_g _ (by omega) (by omega)]
        rw [if_pos (by omega)] at et
        rw [show tword B s e i * 27 + (B (s + i) - 97 + 1) = tword B s e (i + 1) by omega]
        refine ih (i + 1) fu (by omega) (by omega) (fun j hj hj2 => ?_)
        by_cases cj : j = i
        · rw [cj]; exact cs
        · exact h3 j (by omega) hj2
      · rw [if_neg cs, if_neg (by decide)]
        unfold tsens
        rw [if_neg (fun q => cs (q.1 i (by omega)))]
theorem k_127 (hs : cSs S) (hp : cPs G) (hB : cTx G B n) (hf : 100 < f) {s e : Nat} (hse : s ≤ e) (hn : e ≤ n) (h0 : ∀ j, s ≤ j → j < e → B j ≠ 0) : c127 f 65 (s : Int) ((e - s : Nat) : Int) (S, G, m) = some (tsens B s e, (S, G, m)) := k_127_5 hs hp hB hse hn h0 8 0 f (by omega) (by omega) (fun j hj => absurd hj (Nat.not_lt_zero j))
end
end
section
/-! THE CLASS: a TOKEN comes to the list -/
def cPut (G : xG_) (t : Nat) (k a b c : Int) : xG_ := xup2 (xup2 (xup2 (xup2 (xup2 G 67 t k) 68 t a) 69 t b) 70 t c) 65 2 ((t + 1 : Nat) : Int)
theorem cPut_o {G : xG_} {t : Nat} {k a b c : Int} {x j : Nat} (h1 : ¬ (x = 65 ∧ j = 2)) (h2 : ¬ (67 ≤ x ∧ x ≤ 70 ∧ j = t)) : cPut G t k a b c x j = G x j := by
  unfold cPut
  simp (disch := omega) only [xup2_n]
section
variable {f n : Nat} {S : Nat → Nat × Nat × Nat} {G : xG_} {m : Nat × Nat} {B : Nat → Int}
theorem k_128 (hs : cSs S) (hp : cPs G) (hB : cTx G B n) (hf : 100 < f) {s e : Nat} (hsl : s < n) (hse : s ≤ e) (hn : e ≤ n) (hg : tGr (B s)) (hv : ∀ j, s ≤ j → j < e → tVr (B j)) : c128 f 65 (s : Int) ((e - s : Nat) : Int) (S, G, m) = some (tcell B s e, (S, G, m)) := by
  obtain ⟨b1, b2, b3, b4⟩ := hB
  have hb := b4 s hsl
  have hbr := (b3 s).1 hsl
  have e1 : xwr (B s - 65) = B s - 65 := xwr_g _ (by omega) (by omega)
  have e0 : c128 f 65 (s : Int) ((e - s : Nat) : Int) (S, G, m) = (if 6 ≤ B s - 65 then some (-1, (S, G, m)) else (if ((e - s : Nat) : Int) < 2 then some (-1, (S, G, m)) else (if 3 < ((e - s : Nat) : Int) then some (-1, (S, G, m)) else ((cq_gr 8 0 8 65 (S, G, m)).bind fun v124 => ((cq_a 2 v124 (xwr ((s : Int) + 1)) (S, G, m)).bind fun v126 => (if ¬ v126 = 48 then c128_47 f f 65 (s : Int) ((e - s : Nat) : Int) (B s - 65) 0 1 (S, G, m) else some (-1, (S, G, m)))))))) := by
    unfold c128 c128_39
    simp (disch := omega) only [cq_gi, cq_gr, cq_a, cq_s, cq_p, cq_pr, cq_is, cq_ar, cq_ab, cq_ln, xq_nz, Option.bind_some, xup2_n, xup2_s, Int.toNat_natCast, Int.reduceToNat, if_pos, if_neg, true_and, and_true, and_self, eq_self, if_true, reduceIte, not_true_eq_false, not_false_eq_true, or_true, true_or, s65 hs, s66 hs, p65_0 hp, hb, e1]
  rw [e0]
  unfold tcell
  by_cases c1 : 6 ≤ B s - 65
  · rw [if_pos c1, if_pos c1]
  rw [if_neg c1, if_neg c1]
  by_cases c2 : ((e - s : Nat) : Int) < 2
  · rw [if_pos c2, if_neg (by omega), if_neg (by omega)]
  rw [if_neg c2]
  by_cases c3 : 3 < ((e - s : Nat) : Int)
  · rw [if_pos c3, if_neg (by omega), if_neg (by omega)]
  rw [if_neg c3]
  have h1 : s + 1 < n := by omega
  have hb1 := b4 _ h1
  have hbr1 := (b3 (s + 1)).1 h1
  have es1 : xwr ((s : Int) + 1) = ((s + 1 : Nat) : Int) := by rw [xwr_g _ (by omega) (by omega)]; omega
  simp (disch := omega) only [cq_gi, cq_gr, cq_a, cq_s, cq_p, cq_pr, cq_is, cq_ar, cq_ab, cq_ln, xq_nz, Option.bind_some, xup2_n, xup2_s, Int.toNat_natCast, Int.reduceToNat, if_pos, if_neg, true_and, and_true, and_self, eq_self, if_true, reduceIte, not_true_eq_false, not_false_eq_true, or_true, true_or, s65 hs, s66 hs, p65_0 hp, es1, hb1]
  obtain ⟨g, rfl⟩ : ∃ g, f = g + 4 := ⟨f - 4, by omega⟩
  have step : ∀ (fu : Nat) (x4 : Int) (i : Nat), s + i < e → 0 ≤ x4 → x4 ≤ 100 → c128_47 (g + 4) (fu + 1) 65 (s : Int) ((e - s : Nat) : Int) (B s - 65) x4 (i : Int) (S, G, m) = if tDi (B (s + i)) then c128_47 (g + 4) fu 65 (s : Int) ((e - s : Nat) : Int) (B s - 65) (x4 * 10 + B (s + i) - 48) ((i + 1 : Nat) : Int) (S, G, m) else some (-1, (S, G, m)) := fun fu x4 i hi hx1 hx2 => by
    have hbi := b4 (s + i) (by omega)
    have hbri := (b3 (s + i)).1 (by omega)
    have esi : xwr ((s : Int) + (i : Int)) = ((s + i : Nat) : Int) := by rw [xwr_g _ (by omega) (by omega)]; omega
    have ei : xwr ((i : Int) + 1) = ((i + 1 : Nat) : Int) := by rw [xwr_g _ (by omega) (by omega)]; omega
    have ex : xwr (xwr (xwr (x4 * 10) + B (s + i)) - 48) = x4 * 10 + B (s + i) - 48 := by
      rw [xwr_g (x4 * 10) (by omega) (by omega), xwr_g (x4 * 10 + B (s + i)) (by omega) (by omega), xwr_g _ (by omega) (by omega)]
    show c128_47b (c128_47 (g + 4) fu) (g + 4) 65 _ _ _ _ _ _ = _
    unfold c128_47b
    rw [if_neg (by omega)]
    simp (disch := omega) only [cq_gi, cq_gr, cq_a, cq_s, cq_p, cq_pr, cq_is, cq_ar, cq_ab, cq_ln, xq_nz, Option.bind_some, xup2_n, xup2_s, Int.toNat_natCast, Int.reduceToNat, if_pos, if_neg, true_and, and_true, and_self, eq_self, if_true, reduceIte, not_true_eq_false, not_false_eq_true, or_true, true_or, s65 hs, s66 hs, p65_0 hp, esi, hbi, k_123, ex, ei]
    by_cases cd : tDi (B (s + i))
    · simp only [if_pos cd]
      rw [if_pos (by decide)]
    · simp only [if_neg cd]
      rw [if_neg (by decide)]
  have fin : ∀ (fu : Nat) (x4 : Int), 0 ≤ x4 → x4 ≤ 200 → c128_47 (g + 4) (fu + 1) 65 (s : Int) ((e - s : Nat) : Int) (B s - 65) x4 ((e - s : Nat) : Int) (S, G, m) = some (if x4 ≤ 12 then B s - 65 + 6 * (x4 - 1) else -1, (S, G, m)) := fun fu x4 hx1 hx2 => by
    have ex : xwr (B s - 65 + xwr (6 * xwr (x4 - 1))) = B s - 65 + 6 * (x4 - 1) := by
      unfold tGr at hg
      rw [xwr_g (x4 - 1) (by omega) (by omega), xwr_g (6 * (x4 - 1)) (by omega) (by omega), xwr_g _ (by omega) (by omega)]
    show c128_47b (c128_47 (g + 4) fu) (g + 4) 65 _ _ _ _ _ _ = _
    unfold c128_47b c128_116
    rw [if_pos (Int.le_refl _), ex]
    split <;> rfl
  by_cases c48 : B (s + 1) = 48
  · rw [if_neg (fun q => q c48)]
    by_cases c4 : e = s + 2
    · rw [if_pos c4, if_neg (by omega)]
    · rw [if_neg c4, if_neg (by omega)]
  rw [if_pos c48]
  have s1 := step (g + 3) 0 1 (by omega) (by decide) (by decide)
  have s1' : c128_47 (g + 4) (g + 4) 65 (s : Int) ((e - s : Nat) : Int) (B s - 65) 0 1 (S, G, m) = _ := s1
  rw [s1']
  by_cases c4 : e = s + 2
  · rw [if_pos c4]
    by_cases cd : tDi (B (s + 1))
    · rw [if_pos cd]
      have s2 := fin (g + 2) (0 * 10 + B (s + 1) - 48) (by unfold tDi at cd; omega) (by unfold tDi at cd; omega)
      rw [show ((1 + 1 : Nat) : Int) = ((e - s : Nat) : Int) by omega, s2]
      unfold tDi at cd
      rw [if_pos (by omega), if_pos (by omega)]
      congr 2
      omega
    · rw [if_neg cd, if_neg (fun q => cd (by unfold tDi; omega))]
  · rw [if_neg c4]
    by_cases cd : tDi (B (s + 1))
    · rw [if_pos cd]
      have cd' := cd
      unfold tDi at cd'
      have s2 := step (g + 2) (0 * 10 + B (s + 1) - 48) 2 (by omega) (by omega) (by omega)
      rw [show ((1 + 1 : Nat) : Int) = ((2 : Nat) : Int) by rfl, s2]
      by_cases ce : tDi (B (s + 2))
      · rw [if_pos ce]
        have ce' := ce
        unfold tDi at ce'
        have s3 := fin (g + 1) ((0 * 10 + B (s + 1) - 48) * 10 + B (s + 2) - 48) (by omega) (by omega)
        rw [show ((2 + 1 : Nat) : Int) = ((e - s : Nat) : Int) by omega, s3]
        by_cases cf : B (s + 1) = 49 ∧ 48 ≤ B (s + 2) ∧ B (s + 2) ≤ 50
        · rw [if_pos cf, if_pos (by omega)]
          congr 2
          omega
        · rw [if_neg cf, if_neg (by omega)]
      · rw [if_neg ce, if_neg (fun q => ce (by unfold tDi; omega))]
    · rw [if_neg cd, if_neg (fun q => cd (by unfold tDi; omega))]
/-- the end of addName -/
theorem k_114_112 (hs : cSs S) (hp : cPs G) (hB : cTx G B n) (hf : 3100 < f) {s e t : Nat} {c : Int} (ht : G 65 2 = (t : Int)) (htl : t < 3001) (hse : s ≤ e) (hn : e ≤ n) (hN : ∀ j, s ≤ j → j < e → tNm (B j)) : c114_112 f 65 (s : Int) c (e : Int) (S, G, m) = some ((e : Int), (S, cPut (xup2 G 71 t (tsens B s e)) t (tres (tncode B s e)) (s : Int) (e : Int) c, m)) := by
  have hn3 := hB.2.1
  have es : xwr ((e : Int) - (s : Int)) = ((e - s : Nat) : Int) := by rw [xwr_g _ (by omega) (by omega)]; omega
  have e1 := k_127 (f := f) (m := m) hs hp hB (by omega) hse hn (fun j h1 h2 => by have := hN j h1 h2; unfold tNm tSm tDi at this; omega)
  have hp1 : cPs (xup2 G 71 t (tsens B s e)) := hp.tape (fun a j _ q => xup2_n (by omega))
  have hB1 : cTx (xup2 G 71 t (tsens B s e)) B n := hB.ge (xup2_n (by omega)) (fun p => xup2_n (by omega))
  have e2 := k_115 (f := f) (m := m) hs hp1 hB1 (by omega) hse hn hN
  have e3 := k_120 (f := f) (m := m) (k := tres (tncode B s e)) (a := (s : Int)) (b := (e : Int)) (c := c) hs hp1 (by rw [xup2_n (by omega)]; exact ht) htl
  unfold c114_112
  simp (disch := omega) only [cq_gi, cq_gr, cq_a, cq_s, cq_p, cq_pr, cq_is, cq_ar, cq_ab, cq_ln, xq_nz, Option.bind_some, xup2_n, xup2_s, Int.toNat_natCast, Int.reduceToNat, if_pos, if_neg, true_and, and_true, and_self, eq_self, if_true, reduceIte, not_true_eq_false, not_false_eq_true, or_true, true_or, s65 hs, s71 hs, p65_7 hp, es, ht, e1, e2, e3]
  rfl
theorem k_114_5 (hs : cSs S) (hp : cPs G) (hB : cTx G B n) (hf : 3100 < f) {s t : Nat} (ht : G 65 2 = (t : Int)) (htl : t < 3001) (hsn : s < n) : ∀ (d p fu : Nat), p + d = n → d < fu → s ≤ p → (∀ j, s ≤ j → j < p → tNm (B j)) → c114_5 f fu 65 (s : Int) (tenc 38 xdig B s (min (p - s) 12)) (p : Int) (S, G, m) = some ((tnend B n s : Int), (S, cPut (xup2 G 71 t (tsens B s (tnend B n s))) t (tres (tncode B s (tnend B n s))) (s : Int) (tnend B n s : Int) (tncode B s (tnend B n s)), m)) := by
  have hB' := hB
  obtain ⟨b1, b2, b3, b4⟩ := hB
  have hrun := trun_is (P := tNm) b3 (by decide) (n - s) s (Nat.le_refl _) (by omega)
  have fin : ∀ p, s ≤ p → p ≤ n → (∀ j, s ≤ j → j < p → tNm (B j)) → ¬ tNm (B p) → p = tnend B n s := fun p h1 h2 h3 h4 => trun_uniq h3 h4 hrun.2.2.1 hrun.2.2.2 h1 hrun.1
  have close : ∀ p, s ≤ p → p ≤ n → (∀ j, s ≤ j → j < p → tNm (B j)) → ¬ tNm (B p) → c114_112 f 65 (s : Int) (tenc 38 xdig B s (min (p - s) 12)) (p : Int) (S, G, m) = some ((tnend B n s : Int), (S, cPut (xup2 G 71 t (tsens B s (tnend B n s))) t (tres (tncode B s (tnend B n s))) (s : Int) (tnend B n s : Int) (tncode B s (tnend B n s)), m)) := fun p h1 h2 h3 h4 => by
    have e := fin p h1 h2 h3 h4
    rw [← e]
    exact k_114_112 hs hp hB' hf ht htl h1 h2 h3
  intro d
  induction d with
  | zero =>
    intro p fu h1 h2 h3 h4
    obtain ⟨fu, rfl⟩ : ∃ t, fu = t + 1 := ⟨fu - 1, by omega⟩
    show c114_5b (c114_5 f fu) f 65 _ _ _ _ = _
    unfold c114_5b
    simp (disch := omega) only [cq_gi, cq_gr, cq_a, cq_s, cq_p, cq_pr, cq_is, cq_ar, cq_ab, cq_ln, xq_nz, Option.bind_some, xup2_n, xup2_s, Int.toNat_natCast, Int.reduceToNat, if_pos, if_neg, true_and, and_true, and_self, eq_self, if_true, reduceIte, not_true_eq_false, not_false_eq_true, or_true, true_or, s65 hs, b1]
    exact close p h3 (by omega) h4 (by rw [(b3 p).2 (by omega)]; decide)
  | succ d ih =>
    intro p fu h1 h2 h3 h4
    obtain ⟨fu, rfl⟩ : ∃ t, fu = t + 1 := ⟨fu - 1, by omega⟩
    have hlt : p < n := by omega
    have hb := b4 p hlt
    have hbr := (b3 p).1 hlt
    have ep : xwr ((p : Int) + 1) = ((p + 1 : Nat) : Int) := by rw [xwr_g _ (by omega) (by omega)]; omega
    have eps : xwr ((p : Int) - (s : Int)) = ((p - s : Nat) : Int) := by rw [xwr_g _ (by omega) (by omega)]; omega
    -- a further sign
    have go : tNm (B p) → c114_73 (c114_5 f fu) f 65 (s : Int) (tenc 38 xdig B s (min (p - s) 12)) (p : Int) (xdig (B p)) (S, G, m) = some ((tnend B n s : Int), (S, cPut (xup2 G 71 t (tsens B s (tnend B n s))) t (tres (tncode B s (tnend B n s))) (s : Int) (tnend B n s : Int) (tncode B s (tnend B n s)), m)) := fun hN => by
      have hx := xdig_in hN
      have ih' := ih (p + 1) fu (by omega) (by omega) (by omega) (fun j j1 j2 => by
        by_cases cj : j = p
        · rw [cj]; exact hN
        · exact h4 j j1 (by omega))
      unfold c114_73 c114_105
      rw [if_pos (by omega), eps, ep]
      by_cases c12 : 12 ≤ p - s
      · rw [if_pos (by omega)]
        rw [show min (p + 1 - s) 12 = min (p - s) 12 by omega] at ih'
        exact ih'
      · rw [if_neg (by omega)]
        have hl := tenc_b38 (B := B) (s := s) (p - s) (by omega) (fun j hj => h4 _ (by omega) (by omega))
        have em : min (p + 1 - s) 12 = (p - s) + 1 := by omega
        rw [em, tenc_s, show s + (p - s) = p by omega] at ih'
        rw [show min (p - s) 12 = p - s by omega, xwl_g (tenc 38 xdig B s (p - s) * 38) (by omega) (by omega), xwl_g _ (by omega) (by omega)]
        exact ih'
    have stop : ¬ tNm (B p) → c114_73 (c114_5 f fu) f 65 (s : Int) (tenc 38 xdig B s (min (p - s) 12)) (p : Int) 0 (S, G, m) = some ((tnend B n s : Int), (S, cPut (xup2 G 71 t (tsens B s (tnend B n s))) t (tres (tncode B s (tnend B n s))) (s : Int) (tnend B n s : Int) (tncode B s (tnend B n s)), m)) := fun hN => by
      unfold c114_73
      rw [if_neg (fun q => q rfl)]
      exact close p h3 (by omega) h4 hN
    show c114_5b (c114_5 f fu) f 65 _ _ _ _ = _
    unfold c114_5b
    simp (disch := omega) only [cq_gi, cq_gr, cq_a, cq_s, cq_p, cq_pr, cq_is, cq_ar, cq_ab, cq_ln, xq_nz, Option.bind_some, xup2_n, xup2_s, Int.toNat_natCast, Int.reduceToNat, if_pos, if_neg, true_and, and_true, and_self, eq_self, if_true, reduceIte, not_true_eq_false, not_false_eq_true, or_true, true_or, s65 hs, s66 hs, p65_0 hp, b1, hb, k_121, k_123]
    by_cases d1 : tSm (B p)
    · rw [if_pos d1, if_neg (by decide)]
      have : xwr (xwr (B p - 97) + 1) = xdig (B p) := by
        unfold tSm at d1
        unfold xdig
        rw [xwr_g (B p - 97) (by omega) (by omega), xwr_g _ (by omega) (by omega), if_pos (by omega)]
        omega
      rw [this]
      exact go (.inl d1)
    · rw [if_neg d1, if_pos rfl]
      by_cases d2 : tDi (B p)
      · rw [if_pos d2, if_neg (by decide)]
        have : xwr (xwr (B p - 48) + 27) = xdig (B p) := by
          unfold tDi at d2
          unfold xdig
          rw [xwr_g (B p - 48) (by omega) (by omega), xwr_g _ (by omega) (by omega), if_neg (by omega), if_pos (by omega)]
          omega
        rw [this]
        exact go (.inr (.inl d2))
      · rw [if_neg d2, if_pos rfl]
        by_cases d3 : B p = 95
        · rw [if_neg (fun q => q d3)]
          have : (37 : Int) = xdig (B p) := by rw [d3]; rfl
          rw [this]
          exact go (.inr (.inr d3))
        · rw [if_pos d3]
          exact stop (fun q => by rcases q with q | q | q; exact d1 q; exact d2 q; exact d3 q)
theorem k_114 (hs : cSs S) (hp : cPs G) (hB : cTx G B n) (hf : 3100 < f) {s t : Nat} (ht : G 65 2 = (t : Int)) (htl : t < 3001) (hsn : s < n) : c114 f 65 (s : Int) (S, G, m) = some ((tnend B n s : Int), (S, cPut (xup2 G 71 t (tsens B s (tnend B n s))) t (tres (tncode B s (tnend B n s))) (s : Int) (tnend B n s : Int) (tncode B s (tnend B n s)), m)) := by
  have := k_114_5 (f := f) (m := m) hs hp hB hf ht htl hsn (n - s) s f (by omega) (by have := hB.2.1; omega) (Nat.le_refl _) (fun j h1 h2 => by omega)
  rw [Nat.sub_self] at this
  exact this
end
end
section
/-! THE CLASS: further TOKENS come to the list -/
def tvco (B : Nat → Int) (s e : Nat) : Int := tenc 63 d63 B s (min (e - s) 8)
theorem d63_in {a : Int} (ha : tVr a) : 1 ≤ d63 a ∧ d63 a < 63 := by
  unfold d63
  unfold tVr tSm tGr tDi at ha
  repeat' split
  all_goals omega
section
variable {f n : Nat} {S : Nat → Nat × Nat × Nat} {G : xG_} {m : Nat × Nat} {B : Nat → Int}
theorem tenc_b63 {s : Nat} (k : Nat) (hk : k ≤ 8) (h : ∀ j, j < k → tVr (B (s + j))) : 0 ≤ tenc 63 d63 B s k ∧ tenc 63 d63 B s k < 248155780267521 := by
  obtain ⟨h1, h2⟩ := tenc_in (b := 63) (d := d63) (B := B) (s := s) (by decide) k (fun j hj => d63_in (h j hj))
  have : ∀ y : Fin 9, (63 : Int) ^ y.val ≤ 248155780267521 := by decide
  have h3 : (63 : Int) ^ k ≤ 248155780267521 := this ⟨k, by omega⟩
  omega
theorem k_117_119 (hs : cSs S) (hp : cPs G) (hB : cTx G B n) (hf : 3100 < f) {s e t : Nat} {c : Int} (ht : G 65 2 = (t : Int)) (htl : t < 3001) (hsl : s < n) (hse : s ≤ e) (hn : e ≤ n) (hg : tGr (B s)) (hv : ∀ j, s ≤ j → j < e → tVr (B j)) : c117_119 f 65 (s : Int) c (e : Int) (S, G, m) = some ((e : Int), (S, cPut (xup2 G 71 t (tcell B s e)) t 2 (s : Int) (e : Int) c, m)) := by
  have hn3 := hB.2.1
  have es : xwr ((e : Int) - (s : Int)) = ((e - s : Nat) : Int) := by rw [xwr_g _ (by omega) (by omega)]; omega
  have e1 := k_128 (f := f) (m := m) hs hp hB (by omega) hsl hse hn hg hv
  have hp1 : cPs (xup2 G 71 t (tcell B s e)) := hp.tape (fun a j _ q => xup2_n (by omega))
  have e3 := k_120 (f := f) (m := m) (k := 2) (a := (s : Int)) (b := (e : Int)) (c := c) hs hp1 (by rw [xup2_n (by omega)]; exact ht) htl
  unfold c117_119
  simp (disch := omega) only [cq_gi, cq_gr, cq_a, cq_s, cq_p, cq_pr, cq_is, cq_ar, cq_ab, cq_ln, xq_nz, Option.bind_some, xup2_n, xup2_s, Int.toNat_natCast, Int.reduceToNat, if_pos, if_neg, true_and, and_true, and_self, eq_self, if_true, reduceIte, not_true_eq_false, not_false_eq_true, or_true, true_or, s65 hs, s71 hs, p65_7 hp, es, ht, e1, e3]
  rfl
theorem k_117_5 (hs : cSs S) (hp : cPs G) (hB : cTx G B n) (hf : 3100 < f) {s t : Nat} (ht : G 65 2 = (t : Int)) (htl : t < 3001) (hsn : s < n) (hg : tGr (B s)) : ∀ (d p fu : Nat), p + d = n → d < fu → s ≤ p → (∀ j, s ≤ j → j < p → tVr (B j)) → c117_5 f fu 65 (s : Int) (tenc 63 d63 B s (min (p - s) 8)) (p : Int) (S, G, m) = some ((tvend B n s : Int), (S, cPut (xup2 G 71 t (tcell B s (tvend B n s))) t 2 (s : Int) (tvend B n s : Int) (tvco B s (tvend B n s)), m)) := by
  have hB' := hB
  obtain ⟨b1, b2, b3, b4⟩ := hB
  have hrun := trun_is (P := tVr) b3 (by decide) (n - s) s (Nat.le_refl _) (by omega)
  have fin : ∀ p, s ≤ p → p ≤ n → (∀ j, s ≤ j → j < p → tVr (B j)) → ¬ tVr (B p) → p = tvend B n s := fun p h1 h2 h3 h4 => trun_uniq h3 h4 hrun.2.2.1 hrun.2.2.2 h1 hrun.1
  have close : ∀ p, s ≤ p → p ≤ n → (∀ j, s ≤ j → j < p → tVr (B j)) → ¬ tVr (B p) → c117_119 f 65 (s : Int) (tenc 63 d63 B s (min (p - s) 8)) (p : Int) (S, G, m) = some ((tvend B n s : Int), (S, cPut (xup2 G 71 t (tcell B s (tvend B n s))) t 2 (s : Int) (tvend B n s : Int) (tvco B s (tvend B n s)), m)) := fun p h1 h2 h3 h4 => by
    have e := fin p h1 h2 h3 h4
    rw [← e]
    exact k_117_119 hs hp hB' hf ht htl hsn h1 h2 hg h3
  intro d
  induction d with
  | zero =>
    intro p fu h1 h2 h3 h4
    obtain ⟨fu, rfl⟩ : ∃ t, fu = t + 1 := ⟨fu - 1, by omega⟩
    show c117_5b (c117_5 f fu) f 65 _ _ _ _ = _
    unfold c117_5b
    simp (disch := omega) only [cq_gi, cq_gr, cq_a, cq_s, cq_p, cq_pr, cq_is, cq_ar, cq_ab, cq_ln, xq_nz, Option.bind_some, xup2_n, xup2_s, Int.toNat_natCast, Int.reduceToNat, if_pos, if_neg, true_and, and_true, and_self, eq_self, if_true, reduceIte, not_true_eq_false, not_false_eq_true, or_true, true_or, s65 hs, b1]
    exact close p h3 (by omega) h4 (by rw [(b3 p).2 (by omega)]; decide)
  | succ d ih =>
    intro p fu h1 h2 h3 h4
    obtain ⟨fu, rfl⟩ : ∃ t, fu = t + 1 := ⟨fu - 1, by omega⟩
    have hlt : p < n := by omega
    have hb := b4 p hlt
    have hbr := (b3 p).1 hlt
    have ep : xwr ((p : Int) + 1) = ((p + 1 : Nat) : Int) := by rw [xwr_g _ (by omega) (by omega)]; omega
    have eps : xwr ((p : Int) - (s : Int)) = ((p - s : Nat) : Int) := by rw [xwr_g _ (by omega) (by omega)]; omega
    have go : tVr (B p) → c117_80 (c117_5 f fu) f 65 (s : Int) (tenc 63 d63 B s (min (p - s) 8)) (p : Int) (d63 (B p)) (S, G, m) = some ((tvend B n s : Int), (S, cPut (xup2 G 71 t (tcell B s (tvend B n s))) t 2 (s : Int) (tvend B n s : Int) (tvco B s (tvend B n s)), m)) := fun hN => by
      have hx := d63_in hN
      have ih' := ih (p + 1) fu (by omega) (by omega) (by omega) (fun j j1 j2 => by
        by_cases cj : j = p
        · rw [cj]; exact hN
        · exact h4 j j1 (by omega))
      unfold c117_80 c117_112
      rw [if_pos (by omega), eps, ep]
      by_cases c12 : 8 ≤ p - s
      · rw [if_pos (by omega)]
        rw [show min (p + 1 - s) 8 = min (p - s) 8 by omega] at ih'
        exact ih'
      · rw [if_neg (by omega)]
        have hl := tenc_b63 (B := B) (s := s) (p - s) (by omega) (fun j hj => h4 _ (by omega) (by omega))
        have em : min (p + 1 - s) 8 = (p - s) + 1 := by omega
        rw [em, tenc_s, show s + (p - s) = p by omega] at ih'
        rw [show min (p - s) 8 = p - s by omega, xwl_g (tenc 63 d63 B s (p - s) * 63) (by omega) (by omega), xwl_g _ (by omega) (by omega)]
        exact ih'
    have stop : ¬ tVr (B p) → c117_80 (c117_5 f fu) f 65 (s : Int) (tenc 63 d63 B s (min (p - s) 8)) (p : Int) 0 (S, G, m) = some ((tvend B n s : Int), (S, cPut (xup2 G 71 t (tcell B s (tvend B n s))) t 2 (s : Int) (tvend B n s : Int) (tvco B s (tvend B n s)), m)) := fun hN => by
      unfold c117_80
      rw [if_neg (fun q => q rfl)]
      exact close p h3 (by omega) h4 hN
    show c117_5b (c117_5 f fu) f 65 _ _ _ _ = _
    unfold c117_5b
    simp (disch := omega) only [cq_gi, cq_gr, cq_a, cq_s, cq_p, cq_pr, cq_is, cq_ar, cq_ab, cq_ln, xq_nz, Option.bind_some, xup2_n, xup2_s, Int.toNat_natCast, Int.reduceToNat, if_pos, if_neg, true_and, and_true, and_self, eq_self, if_true, reduceIte, not_true_eq_false, not_false_eq_true, or_true, true_or, s65 hs, s66 hs, p65_0 hp, b1, hb, k_121, k_122, k_123]
    by_cases d1 : tGr (B p)
    · rw [if_pos d1, if_neg (by decide)]
      have : xwr (xwr (B p - 65) + 1) = d63 (B p) := by
        unfold tGr at d1
        unfold d63
        rw [xwr_g (B p - 65) (by omega) (by omega), xwr_g _ (by omega) (by omega), if_pos (by omega)]
        omega
      rw [this]
      exact go (.inr (.inl d1))
    · rw [if_neg d1, if_pos rfl]
      by_cases d2 : tSm (B p)
      · rw [if_pos d2, if_neg (by decide)]
        have : xwr (xwr (B p - 97) + 27) = d63 (B p) := by
          unfold tSm at d2
          unfold d63
          rw [xwr_g (B p - 97) (by omega) (by omega), xwr_g _ (by omega) (by omega), if_neg (by omega), if_pos (by omega)]
          omega
        rw [this]
        exact go (.inl d2)
      · rw [if_neg d2, if_pos rfl]
        by_cases d3 : tDi (B p)
        · rw [if_pos d3, if_neg (by decide)]
          have : xwr (xwr (B p - 48) + 53) = d63 (B p) := by
            unfold tDi at d3
            unfold d63
            rw [xwr_g (B p - 48) (by omega) (by omega), xwr_g _ (by omega) (by omega), if_neg (by omega), if_neg (by omega)]
            omega
          rw [this]
          exact go (.inr (.inr d3))
        · rw [if_neg d3, if_pos rfl]
          exact stop (fun q => by rcases q with q | q | q; exact d2 q; exact d1 q; exact d3 q)
theorem k_117 (hs : cSs S) (hp : cPs G) (hB : cTx G B n) (hf : 3100 < f) {s t : Nat} (ht : G 65 2 = (t : Int)) (htl : t < 3001) (hsn : s < n) (hg : tGr (B s)) : c117 f 65 (s : Int) (S, G, m) = some ((tvend B n s : Int), (S, cPut (xup2 G 71 t (tcell B s (tvend B n s))) t 2 (s : Int) (tvend B n s : Int) (tvco B s (tvend B n s)), m)) := by
  have := k_117_5 (f := f) (m := m) hs hp hB hf ht htl hsn hg (n - s) s f (by omega) (by have := hB.2.1; omega) (Nat.le_refl _) (fun j h1 h2 => by omega)
  rw [Nat.sub_self] at this
  exact this
/-- NUMBERS -/
theorem tnum_s (cap : Int) (s k : Nat) : tnum cap B s (k + 1) = min (tnum cap B s k * 10 + B (s + k) - 48) cap := rfl
theorem k_118_16 (hs : cSs S) (hp : cPs G) (hB : cTx G B n) (hf : 3100 < f) {s t : Nat} (ht : G 65 2 = (t : Int)) (htl : t < 3001) (hsn : s < n) (hd0 : tDi (B s)) (h48 : B s ≠ 48) : ∀ (d p fu : Nat), p + d = n → d < fu → s < p → (∀ j, s ≤ j → j < p → tDi (B j)) → 0 < tnum 1000000000001 B s (p - s) → c118_16 f fu 65 (s : Int) (tnum 1000000000001 B s (p - s)) (p : Int) (S, G, m) = some ((tdend B n s : Int), (S, cPut G t 4 (s : Int) (tdend B n s : Int) (tnum 1000000000001 B s (tdend B n s - s)), m)) := by
  have hB' := hB
  obtain ⟨b1, b2, b3, b4⟩ := hB
  have hrun := trun_is (P := tDi) b3 (by decide) (n - s) s (Nat.le_refl _) (by omega)
  have ed : tdend B n s = trun B tDi (n - s) s := by unfold tdend; rw [if_neg h48]
  have fin : ∀ p, s ≤ p → p ≤ n → (∀ j, s ≤ j → j < p → tDi (B j)) → ¬ tDi (B p) → p = tdend B n s := fun p h1 h2 h3 h4 => by rw [ed]; exact trun_uniq h3 h4 hrun.2.2.1 hrun.2.2.2 h1 hrun.1
  have close : ∀ p, s ≤ p → p ≤ n → (∀ j, s ≤ j → j < p → tDi (B j)) → ¬ tDi (B p) → c118_75 f 65 (s : Int) (tnum 1000000000001 B s (p - s)) (p : Int) (S, G, m) = some ((tdend B n s : Int), (S, cPut G t 4 (s : Int) (tdend B n s : Int) (tnum 1000000000001 B s (tdend B n s - s)), m)) := fun p h1 h2 h3 h4 => by
    have e := fin p h1 h2 h3 h4
    rw [← e]
    have e3 := k_120 (f := f) (m := m) (k := 4) (a := (s : Int)) (b := (p : Int)) (c := tnum 1000000000001 B s (p - s)) hs hp ht htl
    unfold c118_75
    simp (disch := omega) only [cq_gi, cq_gr, cq_a, cq_s, cq_p, cq_pr, cq_is, cq_ar, cq_ab, cq_ln, xq_nz, Option.bind_some, xup2_n, xup2_s, Int.toNat_natCast, Int.reduceToNat, if_pos, if_neg, true_and, and_true, and_self, eq_self, if_true, reduceIte, not_true_eq_false, not_false_eq_true, or_true, true_or, s65 hs, e3]
    rfl
  intro d
  induction d with
  | zero =>
    intro p fu h1 h2 h3 h4 h5
    obtain ⟨fu, rfl⟩ : ∃ t, fu = t + 1 := ⟨fu - 1, by omega⟩
    show c118_16b (c118_16 f fu) f 65 _ _ _ _ = _
    unfold c118_16b
    simp (disch := omega) only [cq_gi, cq_gr, cq_a, cq_s, cq_p, cq_pr, cq_is, cq_ar, cq_ab, cq_ln, xq_nz, Option.bind_some, xup2_n, xup2_s, Int.toNat_natCast, Int.reduceToNat, if_pos, if_neg, true_and, and_true, and_self, eq_self, if_true, reduceIte, not_true_eq_false, not_false_eq_true, or_true, true_or, s65 hs, b1]
    exact close p (by omega) (by omega) h4 (by rw [(b3 p).2 (by omega)]; decide)
  | succ d ih =>
    intro p fu h1 h2 h3 h4 h5
    obtain ⟨fu, rfl⟩ : ∃ t, fu = t + 1 := ⟨fu - 1, by omega⟩
    have hlt : p < n := by omega
    have hb := b4 p hlt
    have hbr := (b3 p).1 hlt
    have ep : xwr ((p : Int) + 1) = ((p + 1 : Nat) : Int) := by rw [xwr_g _ (by omega) (by omega)]; omega
    obtain ⟨q1, q2⟩ := tnum_in (cap := 1000000000001) (B := B) (s := s) (by decide) (p - s) (fun j hj => h4 _ (by omega) (by omega))
    show c118_16b (c118_16 f fu) f 65 _ _ _ _ = _
    unfold c118_16b
    simp (disch := omega) only [cq_gi, cq_gr, cq_a, cq_s, cq_p, cq_pr, cq_is, cq_ar, cq_ab, cq_ln, xq_nz, Option.bind_some, xup2_n, xup2_s, Int.toNat_natCast, Int.reduceToNat, if_pos, if_neg, true_and, and_true, and_self, eq_self, if_true, reduceIte, not_true_eq_false, not_false_eq_true, or_true, true_or, s65 hs, s66 hs, p65_0 hp, b1, hb, k_123, ep]
    by_cases cd : tDi (B p)
    · rw [if_pos cd, if_neg (by decide)]
      have es := tnum_s (B := B) 1000000000001 s (p - s)
      rw [show s + (p - s) = p by omega] at es
      have cd' := cd
      unfold tDi at cd'
      have ex : xmin (xwl (xwl (xwl (tnum 1000000000001 B s (p - s) * 10) + B p) - 48)) 1000000000001 = tnum 1000000000001 B s (p + 1 - s) := by
        rw [xwl_g (tnum 1000000000001 B s (p - s) * 10) (by omega) (by omega), xwl_g (tnum 1000000000001 B s (p - s) * 10 + B p) (by omega) (by omega), xwl_g _ (by omega) (by omega), show p + 1 - s = p - s + 1 by omega, es]
        unfold xmin
        split <;> omega
      rw [ex]
      refine ih (p + 1) fu (by omega) (by omega) (by omega) (fun j j1 j2 => ?_) ?_
      · by_cases cj : j = p
        · rw [cj]; exact cd
        · exact h4 j j1 (by omega)
      · rw [show p + 1 - s = p - s + 1 by omega, es]
        omega
    · rw [if_neg cd, if_pos rfl]
      exact close p (by omega) (by omega) h4 cd
theorem k_118 (hs : cSs S) (hp : cPs G) (hB : cTx G B n) (hf : 3100 < f) {s t : Nat} (ht : G 65 2 = (t : Int)) (htl : t < 3001) (hsn : s < n) (hd0 : tDi (B s)) : c118 f 65 (s : Int) (S, G, m) = some ((tdend B n s : Int), (S, cPut G t 4 (s : Int) (tdend B n s : Int) (tnum 1000000000001 B s (tdend B n s - s)), m)) := by
  have hn3 := hB.2.1
  have hb := hB.2.2.2 s hsn
  have hd' := hd0
  unfold tDi at hd'
  have ep : xwr ((s : Int) + 1) = ((s + 1 : Nat) : Int) := by rw [xwr_g _ (by omega) (by omega)]; omega
  have e1 : tnum 1000000000001 B s 1 = B s - 48 := by
    show min (0 * 10 + B (s + 0) - 48) 1000000000001 = _
    rw [Nat.add_zero]
    omega
  have ew : xwr (B s - 48) = B s - 48 := xwr_g _ (by omega) (by omega)
  unfold c118
  simp (disch := omega) only [cq_gi, cq_gr, cq_a, cq_s, cq_p, cq_pr, cq_is, cq_ar, cq_ab, cq_ln, xq_nz, Option.bind_some, xup2_n, xup2_s, Int.toNat_natCast, Int.reduceToNat, if_pos, if_neg, true_and, and_true, and_self, eq_self, if_true, reduceIte, not_true_eq_false, not_false_eq_true, or_true, true_or, s65 hs, s66 hs, p65_0 hp, hb, ep, ew]
  by_cases h48 : B s = 48
  · have ed : tdend B n s = s + 1 := by unfold tdend; rw [if_pos h48]
    obtain ⟨g, rfl⟩ : ∃ g, f = g + 1 := ⟨f - 1, by omega⟩
    rw [ed, Nat.add_sub_cancel_left, e1]
    have e3 := k_120 (f := g + 1) (m := m) (k := 4) (a := (s : Int)) (b := ((s + 1 : Nat) : Int)) (c := B s - 48) hs hp ht htl
    show c118_16b (c118_16 (g + 1) g) (g + 1) 65 _ _ _ _ = _
    unfold c118_16b c118_75
    rw [if_pos (by omega)]
    simp (disch := omega) only [cq_gi, cq_gr, cq_a, cq_s, cq_p, cq_pr, cq_is, cq_ar, cq_ab, cq_ln, xq_nz, Option.bind_some, xup2_n, xup2_s, Int.toNat_natCast, Int.reduceToNat, if_pos, if_neg, true_and, and_true, and_self, eq_self, if_true, reduceIte, not_true_eq_false, not_false_eq_true, or_true, true_or, s65 hs, e3]
    rfl
  · rw [← e1]
    have := k_118_16 (f := f) (m := m) hs hp hB hf ht htl hsn hd0 h48 (n - (s + 1)) (s + 1) f (by omega) (by omega) (by omega) (fun j j1 j2 => by rw [show j = s by omega]; exact hd0) (by rw [Nat.add_sub_cancel_left, e1]; omega)
    rw [Nat.add_sub_cancel_left] at this
    exact this
/-- signs -/
theorem xidx_l {c : Int} : 0 ≤ xidx c ↔ (c = 40 ∨ c = 41 ∨ c = 44 ∨ c = 46 ∨ c = 47 ∨ c = 58 ∨ c = 43 ∨ c = 45 ∨ c = 42 ∨ c = 37 ∨ c = 61 ∨ c = 60 ∨ c = 62) := by
  unfold xidx
  cases h : [40, 41, 44, 46, 47, 58, 43, 45, 42, 37, 61, 60, 62].findIdx? (fun q : Int => decide (q = c)) with
  | none =>
    rw [List.findIdx?_eq_none_iff] at h
    simp at h
    constructor
    · intro q
      have q' : (0 : Int) ≤ -1 := q
      omega
    · intro q
      omega
  | some i =>
    obtain ⟨h1, h2, _⟩ := List.findIdx?_eq_some_iff_getElem.mp h
    have h3 := of_decide_eq_true h2
    constructor
    · intro _
      have hm := List.getElem_mem h1
      rw [h3] at hm
      simp at hm
      omega
    · intro _
      show (0 : Int) ≤ (i : Int)
      omega
theorem k_119 (hs : cSs S) (hp : cPs G) (hB : cTx G B n) (hf : 3100 < f) {s t : Nat} (ht : G 65 2 = (t : Int)) (htl : t < 3001) (hsn : s < n) : c119 f 65 (s : Int) (S, G, m) = some (((if 256 ≤ tsgn (B s) (B (s + 1)) then s + 2 else s + 1 : Nat) : Int), (S, cPut G t (tsgn (B s) (B (s + 1))) (s : Int) ((if 256 ≤ tsgn (B s) (B (s + 1)) then s + 2 else s + 1 : Nat) : Int) 0, m)) := by
  obtain ⟨b1, b2, b3, b4⟩ := hB
  have hb := b4 s hsn
  have hbr := (b3 s).1 hsn
  have ep : xwr ((s : Int) + 1) = ((s + 1 : Nat) : Int) := by rw [xwr_g _ (by omega) (by omega)]; omega
  have ep2 : xwr ((s : Int) + 2) = ((s + 2 : Nat) : Int) := by rw [xwr_g _ (by omega) (by omega)]; omega
  have e3 : ∀ (k : Int) (e : Nat), c120 f 65 k (s : Int) (e : Int) 0 (S, G, m) = some (S, cPut G t k (s : Int) (e : Int) 0, m) := fun k e => k_120 (f := f) (m := m) hs hp ht htl
  have his : cq_is 8 8 65 (S, G, m) = some () := by unfold cq_is; rw [if_pos (s65 hs)]
  -- one sign, or two
  have pair : ∀ k : Int, k ≠ -1 → c119_103 f 65 (s : Int) (B s) k (S, G, m) = some (((s + 2 : Nat) : Int), (S, cPut G t k (s : Int) ((s + 2 : Nat) : Int) 0, m)) := fun k hk => by
    unfold c119_103
    rw [if_neg hk, his, Option.bind_some, ep2, e3, Option.bind_some]
  have one : c119_102 f 65 (s : Int) (B s) (S, G, m) = some (((s + 1 : Nat) : Int), (S, cPut G t (if B s = 95 then 3 else if B s = 40 ∨ B s = 41 ∨ B s = 44 ∨ B s = 46 ∨ B s = 47 ∨ B s = 58 ∨ B s = 43 ∨ B s = 45 ∨ B s = 42 ∨ B s = 37 ∨ B s = 61 ∨ B s = 60 ∨ B s = 62 then B s else 5) (s : Int) ((s + 1 : Nat) : Int) 0, m)) := by
    have h67 : ∀ k : Int, c119_167 f (s : Int) k 65 (S, G, m) = some (((s + 1 : Nat) : Int), (S, cPut G t k (s : Int) ((s + 1 : Nat) : Int) 0, m)) := fun k => by
      unfold c119_167
      rw [his, Option.bind_some, ep, e3, Option.bind_some]
    unfold c119_102 c119_103 c119_143 c119_144
    rw [if_pos rfl]
    have e9 : xq_st 9 = some () := rfl
    have ex : xcsx 9 (B s) = some (xidx (B s)) := rfl
    rw [e9, Option.bind_some, ex, Option.bind_some]
    simp only [h67]
    by_cases c95 : B s = 95
    · rw [if_pos c95]
      have n95 : ¬ ¬ B s = 95 := fun q => q c95
      simp only [if_neg n95]
      split
      · rfl
      · split <;> rfl
    · rw [if_neg c95]
      simp only [if_pos c95]
      by_cases cl : B s = 40 ∨ B s = 41 ∨ B s = 44 ∨ B s = 46 ∨ B s = 47 ∨ B s = 58 ∨ B s = 43 ∨ B s = 45 ∨ B s = 42 ∨ B s = 37 ∨ B s = 61 ∨ B s = 60 ∨ B s = 62
      · have := xidx_l.mpr cl
        rw [if_pos cl, if_neg (by omega), if_neg (by omega), if_neg (by decide)]
      · have : ¬ 0 ≤ xidx (B s) := fun q => cl (xidx_l.mp q)
        rw [if_neg cl]
        by_cases c0 : B s ≤ 0
        · rw [if_pos c0, if_pos trivial]
        · rw [if_neg c0, if_pos (by omega), if_pos trivial]
  -- what is behind
  have main : ∀ y : Int, (y = B (s + 1) ∨ y = 0 ∧ B (s + 1) = -1) → c119_29 f 65 (s : Int) (B s) y (S, G, m) = some (((if 256 ≤ tsgn (B s) (B (s + 1)) then s + 2 else s + 1 : Nat) : Int), (S, cPut G t (tsgn (B s) (B (s + 1))) (s : Int) ((if 256 ≤ tsgn (B s) (B (s + 1)) then s + 2 else s + 1 : Nat) : Int) 0, m)) := fun y hy => by
    have y45 : y = 45 ↔ B (s + 1) = 45 := by omega
    have y61 : y = 61 ↔ B (s + 1) = 61 := by omega
    unfold c119_29 c119_48 c119_66 c119_84
    simp only [y45, y61]
    unfold tsgn
    by_cases a1 : B s = 58 ∧ B (s + 1) = 45
    · rw [if_pos a1, if_neg (fun q => q a1.1), if_neg (fun q => q a1.2), if_pos (by decide)]
      exact pair 256 (by decide)
    by_cases a2 : B s = 33 ∧ B (s + 1) = 61
    · rw [if_neg a1, if_pos a2, if_pos (by omega), if_neg (fun q => q a2.1), if_neg (fun q => q a2.2), if_pos (by decide)]
      exact pair 257 (by decide)
    by_cases a3 : B s = 60 ∧ B (s + 1) = 61
    · rw [if_neg a1, if_neg a2, if_pos a3, if_pos (by omega), if_pos (by omega), if_neg (fun q => q a3.1), if_neg (fun q => q a3.2), if_pos (by decide)]
      exact pair 258 (by decide)
    by_cases a4 : B s = 62 ∧ B (s + 1) = 61
    · rw [if_neg a1, if_neg a2, if_neg a3, if_pos a4, if_pos (by omega), if_pos (by omega), if_pos (by omega), if_neg (fun q => q a4.1), if_neg (fun q => q a4.2), if_pos (by decide)]
      exact pair 259 (by decide)
    rw [if_neg a1, if_neg a2, if_neg a3, if_neg a4]
    have hlow : ¬ (256 : Int) ≤ (if B s = 95 then 3 else if B s = 40 ∨ B s = 41 ∨ B s = 44 ∨ B s = 46 ∨ B s = 47 ∨ B s = 58 ∨ B s = 43 ∨ B s = 45 ∨ B s = 42 ∨ B s = 37 ∨ B s = 61 ∨ B s = 60 ∨ B s = 62 then B s else 5) := by
      split
      · decide
      · split
        · omega
        · decide
    rw [if_neg hlow, ← one]
    by_cases d1 : B s = 58
    · rw [if_neg (fun q => q d1), if_pos (fun q => a1 ⟨d1, q⟩), if_pos (by omega), if_pos (by omega), if_pos (by omega)]
    rw [if_pos d1]
    by_cases d2 : B s = 33
    · rw [if_neg (fun q => q d2), if_pos (fun q => a2 ⟨d2, q⟩), if_pos (by omega), if_pos (by omega)]
    rw [if_pos d2]
    by_cases d3 : B s = 60
    · rw [if_neg (fun q => q d3), if_pos (fun q => a3 ⟨d3, q⟩), if_pos (by omega)]
    rw [if_pos d3]
    by_cases d4 : B s = 62
    · rw [if_neg (fun q => q d4), if_pos (fun q => a4 ⟨d4, q⟩)]
    rw [if_pos d4]
  unfold c119
  simp (disch := omega) only [cq_gi, cq_gr, cq_a, cq_s, cq_p, cq_pr, cq_is, cq_ar, cq_ab, cq_ln, xq_nz, Option.bind_some, xup2_n, xup2_s, Int.toNat_natCast, Int.reduceToNat, if_pos, if_neg, true_and, and_true, and_self, eq_self, if_true, reduceIte, not_true_eq_false, not_false_eq_true, or_true, true_or, s65 hs, s66 hs, p65_0 hp, hb, b1, ep]
  by_cases cn : n ≤ s + 1
  · rw [if_pos (by omega)]
    exact main 0 (.inr ⟨rfl, (b3 (s + 1)).2 cn⟩)
  · rw [if_neg (by omega)]
    have hb1 := b4 (s + 1) (by omega)
    simp (disch := omega) only [cq_gi, cq_gr, cq_a, cq_s, cq_p, cq_pr, cq_is, cq_ar, cq_ab, cq_ln, xq_nz, Option.bind_some, xup2_n, xup2_s, Int.toNat_natCast, Int.reduceToNat, if_pos, if_neg, true_and, and_true, and_self, eq_self, if_true, reduceIte, not_true_eq_false, not_false_eq_true, or_true, true_or, s65 hs, s66 hs, p65_0 hp, hb1]
    exact main _ (.inl rfl)
end
end
