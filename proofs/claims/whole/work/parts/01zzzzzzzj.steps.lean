/-! THE HOUSE: its state, what a call does -/
/-- texts, lines, the line in use, what is fed, answers kept, what merge met, place, rounds refused -/
abbrev sHs : Type := List (List Int) × (Nat → sLn) × Nat × List Int × (Nat × List (List Int)) × (Int × List Int) × Int × Int
abbrev sAr : Type := Int × Int × Int × Int × Int
def stSh (T : List (List Int)) (ln : sLn) (a b w t v : Int) : Prop := ∃ s M, isMo T (lMo ln) s M ∧ (((0 ≤ a ∧ a < 6 ∧ 0 ≤ b ∧ b ≤ 11) ∧ t = 0 ∧ v = (if w = 0 then (fSh (xOf T (lMo ln).2.2.1) s M (a + 6 * b).toNat).1 else if w = 1 then (fSh (xOf T (lMo ln).2.2.1) s M (a + 6 * b).toNat).2 else if w = 2 then ln.2.2.1.2.1 (a + 6 * b).toNat else -1)) ∨ (¬ (0 ≤ a ∧ a < 6 ∧ 0 ≤ b ∧ b ≤ 11) ∧ t = 1 ∧ v = 0))
/-- the call c with A: it answers v, t tells whether it throws -/
def stC (c : Nat) (A : sAr) (S : sHs) (v t : Int) (S' : sHs) : Prop := match S with
  | (T, lns, hr, tx, kp, mt, pl, rf) => match c with
    | 0 => ∃ tx', stFe tx A.1 A.2.1 A.2.2.1 A.2.2.2.1 A.2.2.2.2 v tx' ∧ S' = (T, lns, hr, tx', kp, mt, pl, rf)
    | 1 => ∃ tx', stEn tx A.1 v tx' ∧ S' = (T, lns, hr, tx', kp, mt, pl, rf)
    | 2 => ∃ pl' T' lns', stPg T lns hr tx v pl' T' lns' ∧ S' = (T', lns', hr, [], kp, mt, pl', rf)
    | 3 => v = pl ∧ S' = S
    | 4 => ∃ pl' lns', stCh T lns hr tx v pl' lns' ∧ S' = (T, lns', hr, [], kp, mt, pl', rf)
    | 5 => ∃ T' lns', stCe T lns hr tx v T' lns' ∧ S' = (T', lns', hr, [], kp, mt, pl, rf)
    | 6 => v = ((lns hr).2.2.2.1.1.length : Int) ∧ S' = (T, lUp lns hr (lnF (lns hr)), hr, tx, kp, mt, pl, rf)
    | 7 => ∃ ln' good, stRd T (lns hr) v ln' good ∧ S' = (T, lUp lns hr ln', hr, tx, kp, mt, pl, if good = true then rf else rf + 1)
    | 8 => stCo T (lns hr) hr tx.length rf A.1 v ∧ S' = S
    | 9 => stPd T (lns hr) A.1 A.2.1 t v ∧ S' = S
    | 10 => stVa T (lns hr) A.1 A.2.1 A.2.2.1 t v ∧ S' = S
    | 11 => (∃ s M E, isMo T (lMo (lns hr)) s M ∧ lnEs (lns hr) s E ∧ v = (E.length : Int)) ∧ S' = S
    | 12 => stEt T (lns hr) A.1 A.2.1 t v ∧ S' = S
    | 13 => ∃ pl' kp', (∃ s M, isMo T (lMo (lns hr)) s M ∧ stQu s M kp tx v pl' kp') ∧ S' = (T, lns, hr, [], kp', mt, pl', rf)
    | 14 => stAn kp A.1 A.2.1 t v ∧ S' = S
    | 15 => stRk T (lns hr) A.1 A.2.1 t v ∧ S' = S
    | 16 => stRe T (lns hr) A.1 A.2.1 A.2.2.1 t v ∧ S' = S
    | 17 => stSh T (lns hr) A.1 A.2.1 A.2.2.1 t v ∧ S' = S
    | 18 => stPa T (lns hr) A.1 A.2.1 v ∧ S' = S
    | 19 => stPv T (lns hr) A.1 A.2.1 A.2.2.1 A.2.2.2.1 t v ∧ S' = S
    | 20 => ∃ lns', stBk lns hr A.1 v lns' ∧ S' = (T, lns', hr, tx, kp, mt, pl, rf)
    | 21 => ∃ lns', stBr lns hr A.1 A.2.1 v lns' ∧ S' = (T, lns', hr, tx, kp, mt, pl, rf)
    | 22 => v = (if 0 ≤ A.1 ∧ A.1 < 4 then (hr : Int) else -1) ∧ S' = (if 0 ≤ A.1 ∧ A.1 < 4 then (T, lUp lns A.1.toNat (lnT (lns A.1.toNat)), A.1.toNat, tx, kp, mt, pl, rf) else S)
    | 23 => ∃ mt' lns', stMg T lns hr A.1 mt v mt' lns' ∧ S' = (T, lns', hr, tx, kp, mt', pl, rf)
    | 24 => stMe mt A.1 t v ∧ S' = S
    | _ => False
/-- the reference stands at S; n calls were done -/
def rHs (G : xG_) (S : sHs) (n : Nat) : Prop := match S with
  | (T, lns, hr, tx, kp, mt, pl, rf) => ∃ m, rHb G T m lns hr n ∧ hInv T lns ∧ rTp G tx ∧ rKp G kp ∧ rMt G mt ∧ G 0 75 = pl ∧ G 0 63 = rf ∧ T.length ≤ 1 + n ∧ m + tx.length ≤ 20 * n
/-- the call c of the reference -/
def gC (c f : Nat) (A : sAr) (G : xG_) : Option (Int × xG_) := match c with
  | 0 => g359 f A.1 A.2.1 A.2.2.1 A.2.2.2.1 A.2.2.2.2 G
  | 1 => g360 f A.1 G
  | 2 => g363 f G
  | 3 => g364 f G
  | 4 => g365 f G
  | 5 => g356 f G
  | 6 => g367 f G
  | 7 => g298 f G
  | 8 => g377 f A.1 G
  | 9 => g378 f A.1 A.2.1 G
  | 10 => g372 f A.1 A.2.1 A.2.2.1 G
  | 11 => g379 f G
  | 12 => g380 f A.1 A.2.1 G
  | 13 => g368 f G
  | 14 => g370 f A.1 A.2.1 G
  | 15 => g373 f A.1 A.2.1 G
  | 16 => g374 f A.1 A.2.1 A.2.2.1 G
  | 17 => g355 f A.1 A.2.1 A.2.2.1 G
  | 18 => g318 f A.1 A.2.1 G
  | 19 => g320 f A.1 A.2.1 A.2.2.1 A.2.2.2.1 G
  | 20 => g314 f A.1 G
  | 21 => g315 f A.1 A.2.1 G
  | 22 => g317 f A.1 G
  | 23 => g326 f A.1 G
  | 24 => g330 f A.1 G
  | _ => none
theorem rTp.nil {G : xG_} (h : G 0 73 = 0) : rTp G [] := ⟨h, Nat.zero_le _, ⟨.inr rfl, by decide +kernel, fun p hp => absurd hp (Nat.not_lt_zero p)⟩, fun p hp => absurd hp (Nat.not_lt_zero p)⟩
theorem rMt.g2 {G G' : xG_} {mt : Int × List Int} (h : rMt G mt) (h0 : ∀ j, 82 ≤ j → j ≤ 83 → G' 0 j = G 0 j) (h1 : ∀ j, G' 257 j = G 257 j) : rMt G' mt := ⟨by rw [h0 _ (by omega) (by omega)]; exact h.1, by rw [h0 _ (by omega) (by omega)]; exact h.2.1, h.2.2.1, fun j hj => by rw [h1]; exact h.2.2.2 j hj⟩
section
variable {f n m hr : Nat} {T : List (List Int)} {lns : Nat → sLn} {tx : List Int} {kp : Nat × List (List Int)} {mt : Int × List Int} {pl rf : Int} {G G' : xG_}
/-- behind a call that changes no more than xfHo says -/
theorem rHs.ho {lns' : Nat → sLn} {hr' n' : Nat} {rf' : Int} (hx : xfHo G G') (h : rHb G' T m lns' hr' n') (hi : hInv T lns') (h3 : rTp G tx) (h4 : rKp G kp) (h5 : rMt G mt) (h6 : G 0 75 = pl) (h7 : G' 0 63 = rf') (h8 : T.length ≤ 1 + n') (h9 : m + tx.length ≤ 20 * n') : rHs G' (T, lns', hr', tx, kp, mt, pl, rf') n' := ⟨m, h, hi, h3.ge (hx _ _ (by omega) (by omega) (by omega) (by omega) (by omega)) (fun j => hx _ _ (by omega) (by omega) (by omega) (by omega) (by omega)), h4.ge (fun j _ _ => hx _ _ (by omega) (by omega) (by omega) (by omega) (by omega)) (fun j => hx _ _ (by omega) (by omega) (by omega) (by omega) (by omega)), h5.g2 (fun j _ _ => hx _ _ (by omega) (by omega) (by omega) (by omega) (by omega)) (fun j => hx _ _ (by omega) (by omega) (by omega) (by omega) (by omega)), by rw [hx _ _ (by omega) (by omega) (by omega) (by omega) (by omega)]; exact h6, h7, h8, h9⟩
theorem xfHo.u74 {v : Int} : xfHo G (xup2 G 0 74 v) := fun a j q1 q2 q3 q4 q5 => xup2_n (by omega)
/-- THE REFERENCE: each call -/
theorem r_step (hf : 1000100 < f) (hn : n < 600) {c : Nat} (hc : c ≤ 24) {A : sAr} (hA : A.2.2.1 < 2147483648) {S : sHs} (h : rHs G S n) : ∃ v t G' S', gC c f A G = some (v, G') ∧ stC c A S v t S' ∧ rHs G' S' (n + 1) ∧ G' 0 74 = t := by
  obtain ⟨T, lns, hr, tx, kp, mt, pl, rf⟩ := S
  obtain ⟨m, h1, h2, h3, h4, h5, h6, h7, h8, h9⟩ := h
  have hh : hr < 4 := h1.2.2.2.1
  have h1' := h1.mo (Nat.le_succ n)
  have htx := h3.2.1
  have hT : T.length < 4200 := by omega
  have hm : m + tx.length ≤ 90000 := by omega
  have same : ∀ {v t : Int} {G' : xG_}, gC c f A G = some (v, G') → stC c A (T, lns, hr, tx, kp, mt, pl, rf) v t (T, lns, hr, tx, kp, mt, pl, rf) → rHb G' T m lns hr n → G' 0 74 = t → G' 0 63 = G 0 63 → xfHo G G' → ∃ v t G' S', gC c f A G = some (v, G') ∧ stC c A (T, lns, hr, tx, kp, mt, pl, rf) v t S' ∧ rHs G' S' (n + 1) ∧ G' 0 74 = t := fun {v t G'} e1 e2 e3 e4 e5 e6 => ⟨v, t, G', _, e1, e2, rHs.ho e6 (e3.mo (Nat.le_succ n)) h2 h3 h4 h5 h6 (by rw [e5]; exact h7) (by omega) (by omega), e4⟩
  rcases (show c = 0 ∨ c = 1 ∨ c = 2 ∨ c = 3 ∨ c = 4 ∨ c = 5 ∨ c = 6 ∨ c = 7 ∨ c = 8 ∨ c = 9 ∨ c = 10 ∨ c = 11 ∨ c = 12 ∨ c = 13 ∨ c = 14 ∨ c = 15 ∨ c = 16 ∨ c = 17 ∨ c = 18 ∨ c = 19 ∨ c = 20 ∨ c = 21 ∨ c = 22 ∨ c = 23 ∨ c = 24 by omega) with e | e | e | e | e | e | e | e | e | e | e | e | e | e | e | e | e | e | e | e | e | e | e | e | e <;> subst e
  · -- feed
    obtain ⟨v, G', t', u1, u2, u3, u4, u5⟩ := l_359 (f := f) (a := A.1) (b := A.2.1) (c := A.2.2.1) (d := A.2.2.2.1) (e := A.2.2.2.2) (by omega) h3
    have hl : t'.length ≤ tx.length + 20 := by
      rcases u2 with ⟨_, _, e⟩ | ⟨_, _, e⟩
      · rw [e, List.length_append]; exact Nat.le_refl _
      · rw [e]; omega
    exact ⟨v, 0, G', _, u1, ⟨t', u2, rfl⟩, ⟨m, h1'.ge (fun j _ => u5 _ _ (by omega) (by omega)) (fun a j _ _ => u5 _ _ (by omega) (by omega)) (fun a j _ _ => u5 _ _ (by omega) (by omega)) (fun a j _ _ _ => u5 _ _ (by omega) (by omega)), h2, u3, h4.ge (fun j _ _ => u5 _ _ (by omega) (by omega)) (fun j => u5 _ _ (by omega) (by omega)), h5.g2 (fun j _ _ => u5 _ _ (by omega) (by omega)) (fun j => u5 _ _ (by omega) (by omega)), by rw [u5 _ _ (by omega) (by omega)]; exact h6, by rw [u5 _ _ (by omega) (by omega)]; exact h7, by omega, by omega⟩, u4⟩
  · -- end
    obtain ⟨v, G', t', u1, u2, u3, u4, u5⟩ := l_360 (f := f) (k := A.1) h3
    have hl : t'.length ≤ tx.length := by
      rcases u2 with ⟨_, _, e⟩ | ⟨_, _, e⟩
      · rw [e, List.length_take]; omega
      · rw [e]; exact Nat.le_refl _
    exact ⟨v, 0, G', _, u1, ⟨t', u2, rfl⟩, ⟨m, h1'.ge (fun j _ => u5 _ _ (by omega)) (fun a j _ _ => u5 _ _ (by omega)) (fun a j _ _ => u5 _ _ (by omega)) (fun a j _ _ _ => u5 _ _ (by omega)), h2, u3, h4.ge (fun j _ _ => u5 _ _ (by omega)) (fun j => u5 _ _ (by omega)), h5.g2 (fun j _ _ => u5 _ _ (by omega)) (fun j => u5 _ _ (by omega)), by rw [u5 _ _ (by omega)]; exact h6, by rw [u5 _ _ (by omega)]; exact h7, by omega, by omega⟩, u4⟩
  · -- program
    obtain ⟨v, G', T', m', lns', u1, u2, u3, u4, u5, u6, u7⟩ := l_363h (f := f) (by omega) h1 h3 hT hm
    have hl : T'.length ≤ 1 + (n + 1) := by
      rcases u2 with ⟨_, e, _⟩ | ⟨_, _, _, _, _, e, _⟩
      · rw [e]; omega
      · rw [e, List.length_append, List.length_singleton]; omega
    exact ⟨v, 0, G', _, u1, ⟨G' 0 75, T', lns', u2, rfl⟩, ⟨m', u3.mo (Nat.le_succ n), h2.pg hh u2, rTp.nil u5, h4.ge (fun j _ _ => u7 _ _ (by omega) (by omega) (by omega) (by omega) (by omega)) (fun j => u7 _ _ (by omega) (by omega) (by omega) (by omega) (by omega)), h5.g2 (fun j _ _ => u7 _ _ (by omega) (by omega) (by omega) (by omega) (by omega)) (fun j => u7 _ _ (by omega) (by omega) (by omega) (by omega) (by omega)), rfl, by rw [u7 _ _ (by omega) (by omega) (by omega) (by omega) (by omega)]; exact h7, hl, by rw [List.length_nil]; omega⟩, u6⟩
  · -- place
    exact same (t := 0) (l_364 (f := f)) ⟨h6, rfl⟩ h1.u74 (xup2_s _ _ _ _) (xup2_n (by omega)) xfHo.u74
  · -- change
    obtain ⟨v, G', lns', u1, u2, u3, u5, u6, u7⟩ := l_365h (f := f) (by omega) h1 h3
    exact ⟨v, 0, G', _, u1, ⟨G' 0 75, lns', u2, rfl⟩, ⟨m, u3.mo (Nat.le_succ n), h2.ch hh u2, rTp.nil u5, h4.ge (fun j _ _ => u7 _ _ (by omega) (by omega) (by omega) (by omega) (by omega)) (fun j => u7 _ _ (by omega) (by omega) (by omega) (by omega) (by omega)), h5.g2 (fun j _ _ => u7 _ _ (by omega) (by omega) (by omega) (by omega) (by omega)) (fun j => u7 _ _ (by omega) (by omega) (by omega) (by omega) (by omega)), rfl, by rw [u7 _ _ (by omega) (by omega) (by omega) (by omega) (by omega)]; exact h7, by omega, by rw [List.length_nil]; omega⟩, u6⟩
  · -- cell
    obtain ⟨v, G', T', m', lns', u1, u2, u3, u4, u5, u6, u8, u7⟩ := l_356h (f := f) (by omega) h1 h3 hT hm
    have hl : T'.length ≤ 1 + (n + 1) := by
      have u2' := u2
      unfold stCe at u2'
      cases hq : qCt tx with
      | inl w => rw [hq] at u2'; rw [u2'.2.1]; omega
      | inr r =>
        rw [hq] at u2'
        rcases u2'.2 with ⟨_, e, _⟩ | ⟨_, e, _⟩
        · rw [e]; omega
        · rw [e, List.length_append, List.length_singleton]; omega
    exact ⟨v, 0, G', _, u1, ⟨T', lns', u2, rfl⟩, ⟨m', u3.mo (Nat.le_succ n), h2.ce hh u2, rTp.nil u5, h4.ge (fun j _ _ => u7 _ _ (by omega) (by omega) (by omega) (by omega) (by omega)) (fun j => u7 _ _ (by omega) (by omega) (by omega) (by omega) (by omega)), h5.g2 (fun j _ _ => u7 _ _ (by omega) (by omega) (by omega) (by omega) (by omega)) (fun j => u7 _ _ (by omega) (by omega) (by omega) (by omega) (by omega)), by rw [u8]; exact h6, by rw [u7 _ _ (by omega) (by omega) (by omega) (by omega) (by omega)]; exact h7, hl, by rw [List.length_nil]; omega⟩, u6⟩
  · -- forget
    obtain ⟨G', u1, u2, u3, u4, u5⟩ := l_367 (f := f) (by omega) h1
    rw [lUp_f (g := lnF)] at u2
    exact ⟨_, 0, G', _, u1, ⟨rfl, rfl⟩, rHs.ho u5 (u2.mo (Nat.le_succ n)) h2.fo h3 h4 h5 h6 (by rw [u4]; exact h7) (by omega) (by omega), u3⟩
  · -- round
    obtain ⟨v, G', ln', good, u1, u2, u3, u4, u5, u6⟩ := l_298h (f := f) hf (by omega) h1
    obtain ⟨s', M', w1, _, _⟩ := u3.2.2.2.2.1 hr hh
    rw [lUp_s] at w1
    exact ⟨v, 0, G', _, u1, ⟨ln', good, u2, rfl⟩, rHs.ho u6 u3 (h2.rd hh u2 w1) h3 h4 h5 h6 (by rw [u4, h7]) (by omega) (by omega), u5⟩
  · -- count
    obtain ⟨v, G', u1, u2, u3, u4, u5, u6⟩ := l_377 (f := f) (w := A.1) hf h1 h3.1
    rw [h7] at u2
    exact same (t := 0) u1 ⟨u2, rfl⟩ u3 u4 u5 u6
  · obtain ⟨t, v, G', u1, u2, u3, u4, u5, u6⟩ := l_378 (f := f) (p := A.1) (w := A.2.1) hf h1
    exact same u1 ⟨u2, rfl⟩ u3 u4 u5 u6
  · obtain ⟨t, v, G', u1, u2, u3, u4, u5, u6⟩ := l_372 (f := f) (p := A.1) (i := A.2.1) (col := A.2.2.1) hf h1
    exact same u1 ⟨u2, rfl⟩ u3 u4 u5 u6
  · obtain ⟨s, M, E, u1, u2, u3⟩ := l_379 (f := f) h1
    exact same (t := 0) u3 ⟨⟨s, M, E, u1, u2, rfl⟩, rfl⟩ h1.u74 (xup2_s _ _ _ _) (xup2_n (by omega)) xfHo.u74
  · obtain ⟨t, v, G', u1, u2, u3, u4, u5, u6⟩ := l_380 (f := f) (i := A.1) (w := A.2.1) hf h1
    exact same u1 ⟨u2, rfl⟩ u3 u4 u5 u6
  · -- query
    obtain ⟨v, G', kp', u1, u2, u3, u4, u5, u6, u7⟩ := l_368 (f := f) hf h1 h3 h4
    exact ⟨v, 0, G', _, u1, ⟨G' 0 75, kp', u2, rfl⟩, ⟨m, u3.mo (Nat.le_succ n), h2, rTp.nil u5, u4, h5.g2 (fun j _ _ => u7 _ _ (by omega) (by omega) (by omega) (by omega)) (fun j => u7 _ _ (by omega) (by omega) (by omega) (by omega)), rfl, by rw [u7 _ _ (by omega) (by omega) (by omega) (by omega)]; exact h7, by omega, by rw [List.length_nil]; omega⟩, u6⟩
  · obtain ⟨t, v, G', u1, u2, u3, u4⟩ := l_370 (f := f) (i := A.1) (k := A.2.1) h4
    exact same u1 ⟨u2, rfl⟩ (h1.ge (fun j _ => u4 _ _ (by omega)) (fun a j _ _ => u4 _ _ (by omega)) (fun a j _ _ => u4 _ _ (by omega)) (fun a j _ _ _ => u4 _ _ (by omega))) u3 (u4 _ _ (by omega)) (fun a j _ _ _ _ _ => u4 _ _ (by omega))
  · obtain ⟨t, v, G', u1, u2, u3, u4, u5, u6⟩ := l_373 (f := f) (p := A.1) (i := A.2.1) hf h1
    exact same u1 ⟨u2, rfl⟩ u3 u4 u5 u6
  · obtain ⟨t, v, G', u1, u2, u3, u4, u5, u6⟩ := l_374 (f := f) (p := A.1) (i := A.2.1) (k := A.2.2.1) hf hA h1
    exact same u1 ⟨u2, rfl⟩ u3 u4 u5 u6
  · -- sheet
    have e := l_355 (f := f) (G := G) hh rfl h1.2.2.1 A.1 A.2.1 A.2.2.1
    obtain ⟨s, M, b1, b2, b3⟩ := h1.l1
    by_cases ci : 0 ≤ A.1 ∧ A.1 < 6 ∧ 0 ≤ A.2.1 ∧ A.2.1 ≤ 11
    · rw [if_pos ci] at e
      have hx : (A.1 + 6 * A.2.1).toNat < 72 := by omega
      have y1 := b2.2.2.2.2.1 _ hx
      have y2 := b2.2.2.2.2.2.2.1 _ hx
      rw [y1.1, y1.2, y2] at e
      exact same (t := 0) e ⟨⟨s, M, b1, .inl ⟨ci, rfl, rfl⟩⟩, rfl⟩ h1.u74 (xup2_s _ _ _ _) (xup2_n (by omega)) xfHo.u74
    · rw [if_neg ci] at e
      exact same (t := 1) e ⟨⟨s, M, b1, .inr ⟨ci, rfl, rfl⟩⟩, rfl⟩ h1.u74.u74 (xup2_s _ _ _ _) (by rw [xup2_n (by omega), xup2_n (by omega)]) (xfHo.u74.tr xfHo.u74)
  · obtain ⟨v, G', u1, u2, u3, u4, u5, u6, _⟩ := l_318 (f := f) (r := A.1) (p := A.2.1) hf (by omega) h1
    exact same (t := 0) u1 ⟨u2, rfl⟩ u3 u4 u5 u6
  · obtain ⟨t, v, G', u1, u2, u3, u4, u5, u6⟩ := l_320 (f := f) (r := A.1) (p := A.2.1) (i := A.2.2.1) (col := A.2.2.2.1) hf (by omega) h1
    exact same u1 ⟨u2, rfl⟩ u3 u4 u5 u6
  · -- back
    obtain ⟨v, G', lns', u1, u2, u3, u4, u5, u6⟩ := l_314 (f := f) (r := A.1) hf (by omega) h1
    exact ⟨v, 0, G', _, u1, ⟨lns', u2, rfl⟩, rHs.ho u6 u3 (h2.bk u2) h3 h4 h5 h6 (by rw [u5]; exact h7) (by omega) (by omega), u4⟩
  · -- branch
    obtain ⟨v, G', lns', u1, u2, u3, u4, u5, u6⟩ := l_315 (f := f) (k := A.1) (r := A.2.1) hf (by omega) h1
    exact ⟨v, 0, G', _, u1, ⟨lns', u2, rfl⟩, rHs.ho u6 u3 (h2.br hh u2) h3 h4 h5 h6 (by rw [u5]; exact h7) (by omega) (by omega), u4⟩
  · -- line
    obtain ⟨G', u1, u2, u3, u4, u5⟩ := l_317 (f := f) (k := A.1) (by omega) h1
    by_cases ck : 0 ≤ A.1 ∧ A.1 < 4
    · rw [if_pos ck, if_pos ck, lUp_f (g := lnT)] at u2
      refine ⟨_, 0, G', (T, lUp lns A.1.toNat (lnT (lns A.1.toNat)), A.1.toNat, tx, kp, mt, pl, rf), u1, ⟨rfl, by rw [if_pos ck]⟩, rHs.ho u5 (u2.mo (Nat.le_succ n)) h2.lt h3 h4 h5 h6 (by rw [u4]; exact h7) (by omega) (by omega), u3⟩
    · rw [if_neg ck, if_neg ck] at u2
      exact same (t := 0) u1 ⟨rfl, by rw [if_neg ck]⟩ u2 u3 u4 u5
  · -- merge
    obtain ⟨v, G', mt', lns', u1, u2, u3, u4, u5, u6, u7⟩ := l_326 (f := f) (k := A.1) hf (by omega) h1 h2 h5
    exact ⟨v, 0, G', _, u1, ⟨mt', lns', u2, rfl⟩, ⟨m, u3.mo (Nat.le_succ n), h2.mg hh u2, h3.ge (u7 _ _ (by omega) (by omega) (by omega) (by omega)) (fun j => u7 _ _ (by omega) (by omega) (by omega) (by omega)), h4.ge (fun j _ _ => u7 _ _ (by omega) (by omega) (by omega) (by omega)) (fun j => u7 _ _ (by omega) (by omega) (by omega) (by omega)), u4, by rw [u7 _ _ (by omega) (by omega) (by omega) (by omega)]; exact h6, by rw [u6]; exact h7, by omega, by omega⟩, u5⟩
  · obtain ⟨t, v, G', u1, u2, u3, u4⟩ := l_330 (f := f) (w := A.1) h5
    exact same u1 ⟨u2, rfl⟩ (h1.ge (fun j _ => u4 _ _ (by omega)) (fun a j _ _ => u4 _ _ (by omega)) (fun a j _ _ => u4 _ _ (by omega)) (fun a j _ _ _ => u4 _ _ (by omega))) u3 (u4 _ _ (by omega)) (fun a j _ _ _ _ _ => u4 _ _ (by omega))
end
