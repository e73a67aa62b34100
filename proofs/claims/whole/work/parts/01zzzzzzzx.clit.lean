/-! THE CLASS reads ATOMS -/
/-- the program that is read, or that a text speaks of -/
def cPr0 (S : Nat → Nat × Nat × Nat) (G : xG_) (q : Nat) (tell : Bool) (L : List Int) : Prop := G 72 3 = (q : Int) ∧ 82 < q ∧ (tell = true → 278 < q) ∧ G 72 4 = b01 tell ∧ cPgS S q ∧ cPgP G q ∧ cNs G q L
def cTm (k v : Int) (x : Int × Int) : Prop := x.1 = 1 ∧ k = 2 ∧ v = x.2 ∨ x.1 = 2 ∧ k = 3 ∨ x.1 = 3 ∧ k = 4 ∧ v = x.2
def xFn (tell : Bool) (q : Nat) (G G' : xG_) : Prop := ∀ a j, ¬ (a = 72 ∧ j = 1) → ¬ (tell = true ∧ (a = q ∧ j = 1 ∨ a = q + 1)) → G' a j = G a j
def xFt (u l : Nat) (G G' : xG_) : Prop := ∀ a j, ¬ (a = 72 ∧ (j = 1 ∨ j = 2)) → a ≠ 77 → ¬ (a = u ∧ j = 6) → a ≠ u + 1 → ¬ ((a = u + 5 ∨ a = u + 6) ∧ 4 * l ≤ j) → G' a j = G a j
section
variable {f n N w i u q l : Nat} {S : Nat → Nat × Nat × Nat} {G G' G'' : xG_} {m : Nat × Nat} {B : Nat → Int} {t : tStr} {V V' : List (Int × Nat)} {K K' : pCd} {L : List Int} {tell : Bool}
theorem xFt.id : xFt u l G G := fun _ _ _ _ _ _ _ => rfl
theorem xFt.tr (h : xFt u l G G') (h' : xFt u l G' G'') : xFt u l G G'' := fun a j p q r s z => by rw [h' a j p q r s z, h a j p q r s z]
theorem xF0.ft (h : xF0 u G G') : xFt u l G G' := fun a j p q r s z => h a j p q r s
theorem cRu0.ge (h : cRu0 S G u) (h5 : G' 72 5 = G 72 5) (hp : ∀ j, 7 ≤ j → j ≠ 8 → j ≠ 16 → j ≠ 17 → G' u j = G u j) : cRu0 S G' u := by
  obtain ⟨h1, h2, h3, h4, h5', h6, h7, h8, h9, h10, h11, h12, h13⟩ := h
  refine ⟨by rw [h5]; exact h1, h2, h3, ?_⟩
  unfold cRuP
  rw [hp 7 (by decide) (by decide) (by decide) (by decide), hp 9 (by decide) (by decide) (by decide) (by decide), hp 10 (by decide) (by decide) (by decide) (by decide), hp 11 (by decide) (by decide) (by decide) (by decide), hp 12 (by decide) (by decide) (by decide) (by decide), hp 13 (by decide) (by decide) (by decide) (by decide), hp 14 (by decide) (by decide) (by decide) (by decide), hp 15 (by decide) (by decide) (by decide) (by decide), hp 18 (by decide) (by decide) (by decide) (by decide), hp 19 (by decide) (by decide) (by decide) (by decide)]
  exact ⟨h4, h5', h6, h7, h8, h9, h10, h11, h12, h13⟩
theorem cXr.b {i' : Nat} (h : cXr S G B n t N w u V K i) (hb : ∀ a j, ¬ (a = 72 ∧ (j = 1 ∨ j = 2 ∨ j = 9 ∨ j = 12 ∨ j = 14)) → ¬ (73 ≤ a ∧ a ≤ 82) → a < 279 → G' a j = G a j) (hp : ∀ j, 7 ≤ j → j ≠ 8 → j ≠ 16 → j ≠ 17 → G' u j = G u j) (h1 : cAt G' N w i') (h2 : i' ≤ N) (h3 : cVs G' B n u V') (h4 : vVs t V') (h5 : cCo G' K') : cXr S G' B n t N w u V' K' i' :=
  ⟨h.1.ge (fun _ _ => rfl) (fun a j p q r => hb a j (by omega) q r), h1, h2, h.2.2.2.1.ge (hb 72 5 (by omega) (by omega) (by omega)) hp, h3, h4, h5⟩
/-- a store that reading doesn't see -/
theorem cXr.st (h : cXr S G B n t N w u V K i) (h0 : ∀ a j, (a < 279 ∧ a ≠ 78 ∧ a ≠ 79 ∧ a ≠ 80 ∧ a ≠ 81 ∧ a ≠ 82 ∧ ¬ (a = 72 ∧ j = 14)) → G' a j = G a j) (h6 : ∀ j, 6 ≤ j → j ≠ 8 → j ≠ 16 → j ≠ 17 → G' u j = G u j) (h7 : ∀ j, G' (u + 1) j = G (u + 1) j) : cXr S G' B n t N w u V K i :=
  h.b (fun a j p q r => h0 a j (by omega)) (fun j p q r s => h6 j (by omega) q r s) ⟨by rw [h0 72 1 (by omega)]; exact h.2.1.1, h.2.1.2⟩ h.2.2.1 (h.2.2.2.2.1.ge (h6 6 (by decide) (by decide) (by decide) (by decide)) (fun j => h0 77 j (by omega)) h7) h.2.2.2.2.2.1 (h.2.2.2.2.2.2.ge (h0 72 9 (by omega)) (fun j => h0 73 j (by omega)) (fun j => h0 74 j (by omega)))
theorem cXr.st1 {a j : Nat} {v : Int} (h : cXr S G B n t N w u V K i) (h1 : 278 < a) (h2 : a ≠ u + 1) (h3 : ¬ (a = u ∧ (6 ≤ j ∧ j ≠ 8 ∧ j ≠ 16 ∧ j ≠ 17))) : cXr S (xup2 G a j v) B n t N w u V K i := h.st (fun b k p => xup2_n (by omega)) (fun k p q r s => xup2_n (by omega)) (fun k => xup2_n (by omega))
/-- NAMES -/
theorem k_pred (hf : 20 < f) (hE : cEv S G B n t N w) (hA : cAt G N w i) (hr : cPr0 S G q tell L) : pok (if tell = true then pPred t L i else pbind (pName t i) fun r => .inr (pIdx L r.1, L, r.2)) (fun x => c47 f 72 (S, G, m) = some (.inl 0, cWr S G m (x : Int)) ∨ ∃ v, ∃ G1 : xG_, c47 f 72 (S, G, m) = some (.inr v, (S, G1, m)) ∧ c48 f 72 v (kS t i : Int) (S, G1, m) = some (.inl 0, cWr S G1 m (x : Int)) ∧ xFn false q G G1)
    (fun r => ∃ v G1 G2, c47 f 72 (S, G, m) = some (.inr v, (S, G1, m)) ∧ c48 f 72 v (kS t i : Int) (S, G1, m) = some (.inr r.1, (S, G2, m)) ∧ xFn tell q G G2 ∧ r.2.2 = i + 1 ∧ i + 1 ≤ N ∧ cAt G2 N w (i + 1) ∧ cNs G2 q r.2.1) := by
  obtain ⟨r1, r2, r3, r4, r5, r6, r7⟩ := hr
  have p := k_47 (f := f) (m := m) hE hA
  cases hn : pName t i with
  | inl x =>
    rw [hn] at p
    cases tell with
    | true => rw [if_pos rfl]; unfold pPred; rw [hn]; exact .inl p
    | false => rw [if_neg (by decide)]; exact .inl p
  | inr r =>
    rw [hn] at p
    obtain ⟨a1, a2, a3, a4⟩ := p
    have hlt := (hE.lt hA (by omega)).1
    have hs := hE.1
    have b1 : xup2 G 72 1 ((min r.2 N : Nat) : Int) 72 3 = (q : Int) := by rw [xup2_n (by omega)]; exact r1
    have b4 : xup2 G 72 1 ((min r.2 N : Nat) : Int) 72 4 = b01 tell := by rw [xup2_n (by omega)]; exact r4
    have b6 : cPgP (xup2 G 72 1 ((min r.2 N : Nat) : Int)) q := by
      unfold cPgP at r6 ⊢
      rw [xup2_n (by omega), xup2_n (by omega), xup2_n (by omega), xup2_n (by omega), xup2_n (by omega), xup2_n (by omega), xup2_n (by omega), xup2_n (by omega), xup2_n (by omega), xup2_n (by omega)]
      exact r6
    have b7 : cNs (xup2 G 72 1 ((min r.2 N : Nat) : Int)) q L := ⟨by rw [xup2_n (by omega)]; exact r7.1, r7.2.1, fun k hk => by rw [xup2_n (by omega)]; exact r7.2.2 k hk⟩
    obtain ⟨c1, c2, c3⟩ := k_48 (f := f) (m := m) (x := r.1) (y := (kS t i : Int)) hf hs b1 r2 b4 r5 b6 b7
    have hx : xFn false q G (xup2 G 72 1 ((min r.2 N : Nat) : Int)) := fun a j p _ => xup2_n (by omega)
    cases tell with
    | false =>
      rw [if_neg (by decide)]
      exact ⟨_, _, _, a1, c3 (fun q => by cases q.2), fun a j p _ => xup2_n (by omega), a2, by omega, by rw [a2] at a4 ⊢; exact a4, b7⟩
    | true =>
      rw [if_pos rfl]
      unfold pPred
      rw [hn]
      show pok (if pIdx L r.1 = -1 then (if L.length = 16 then .inl (kS t i) else .inr ((L.length : Int), L ++ [r.1], r.2)) else .inr (pIdx L r.1, L, r.2)) _ _
      by_cases d1 : pIdx L r.1 = -1
      · rw [if_pos d1]
        by_cases d2 : L.length = 16
        · rw [if_pos d2]
          exact .inr ⟨_, _, a1, c1 ⟨d1, rfl, d2⟩, hx⟩
        · rw [if_neg d2]
          obtain ⟨e1, e2⟩ := c2 ⟨d1, rfl, d2⟩
          have hq := r3 rfl
          refine ⟨_, _, _, a1, e1, fun a j p z => ?_, a2, by omega, ?_, e2⟩
          · have z' : ¬ (a = q ∧ j = 1 ∨ a = q + 1) := fun y => z ⟨rfl, y⟩
            rw [xup2_n (by omega), xup2_n (by omega), xup2_n (by omega)]
          · rw [a2] at a4 ⊢
            exact ⟨by rw [xup2_n (by omega), xup2_n (by omega)]; exact a4.1, a4.2⟩
      · rw [if_neg d1]
        exact ⟨_, _, _, a1, c3 (fun q => d1 q.1), fun a j p _ => xup2_n (by omega), a2, by omega, by rw [a2] at a4 ⊢; exact a4, b7⟩
/-- a TERM -/
theorem k_term {kd sp p : Int} {c : Nat} {r41 : Nat → Int → Int → Int → Int → Int → xT_ → Option ((Nat ⊕ Unit) × xT_)} (hf : 20 < f) (hok : tOk t) (hvi : vIn t B n) (hl : l < 8) (hc : c < 4) (h : cXr S G B n t N w u V K i) : pok (pTerm t V i) (fun x => ∃ G', c46_41b r41 f 72 kd sp p (l : Int) (c : Int) (S, G, m) = some (.inl 0, cWr S G' m (x : Int)) ∧ xFt u l G G')
    (fun r => ∃ G', c46_41b r41 f 72 kd sp p (l : Int) (c : Int) (S, G, m) = c46_133 r41 f 72 kd sp p (l : Int) (c : Int) (S, G', m) ∧ xFt u l G G' ∧ cXr S G' B n t N w u r.2.1 K r.2.2 ∧ i < r.2.2 ∧ cTm (G' (u + 5) (4 * l + c)) (G' (u + 6) (4 * l + c)) r.1 ∧ ∀ j, j ≠ 4 * l + c → G' (u + 5) j = G (u + 5) j ∧ G' (u + 6) j = G (u + 6) j) := by
  have hE := h.1
  have hA := h.2.1
  obtain ⟨k1, k2, k3, k4⟩ := hE.tk hA
  have hs := hE.1
  have hp := hE.2.1
  obtain ⟨u1, u2, ⟨us, us1, us2, us3, us4, us5, us6, _⟩, ⟨up7, up9, up10, up11, up12, up13, _⟩⟩ := h.2.2.2.1
  have e4 : xwr (xwr (4 * (l : Int)) + (c : Int)) = ((4 * l + c : Nat) : Int) := by rw [xwr_g (4 * (l : Int)) (by omega) (by omega), xwr_g _ (by omega) (by omega)]; omega
  have hft : ∀ v, xFt u l G (xup2 G (u + 5) (4 * l + c) v) := fun v a j p q r s z => xup2_n (by omega)
  have hX : ∀ v, cXr S (xup2 G (u + 5) (4 * l + c) v) B n t N w u V K i := fun v => h.st1 (by omega) (by omega) (by omega)
  unfold pTerm
  by_cases c2 : kK t i = 2
  · rw [if_pos c2]
    have p49 := k_49r (m := m) hf hvi (hX 2)
    have e1 : c46_41b r41 f 72 kd sp p (l : Int) (c : Int) (S, G, m) = ((c49 f 72 (S, xup2 G (u + 5) (4 * l + c) 2, m)).bind fun R194 => cth R194 (fun v200 => c46_132 r41 f 72 kd sp p (l : Int) (c : Int) v200 ((4 * l + c : Nat) : Int) (u + 6) R194.2)) := by
      unfold c46_41b c46_85 c46_91
      simp (disch := omega) only [cq_gi, cq_gr, cq_a, cq_s, cq_p, cq_pr, cq_is, cq_ar, cq_ab, cq_ln, xq_nz, Option.bind_some, xup2_n, xup2_s, Int.toNat_natCast, Int.reduceToNat, if_pos, if_neg, true_and, and_true, and_self, eq_self, if_true, reduceIte, not_true_eq_false, not_false_eq_true, or_true, true_or, s72 hs, s65 hs, s67 hs, p72_0 hp, p65_3 hp, us, us5, us6, u1, up12, up13, k1, k3, c2, e4]
    cases hpv : pVar t V i with
    | inl x =>
      rw [hpv] at p49
      refine ⟨_, ?_, hft 2⟩
      have p49' : c49 f 72 (S, xup2 G (u + 5) (4 * l + c) 2, m) = _ := p49
      rw [e1, p49']
      rfl
    | inr r =>
      rw [hpv] at p49
      obtain ⟨G1, a1, a2, a3⟩ := p49
      have hr := (pVar_le hpv).1
      have z1 : ∀ j, G1 (u + 5) j = xup2 G (u + 5) (4 * l + c) 2 (u + 5) j := fun j => a2 _ _ (by omega) (by omega) (by omega) (by omega)
      have z2 : ∀ j, G1 (u + 6) j = xup2 G (u + 5) (4 * l + c) 2 (u + 6) j := fun j => a2 _ _ (by omega) (by omega) (by omega) (by omega)
      refine ⟨xup2 G1 (u + 6) (4 * l + c) r.1, ?_, ((hft 2).tr a2.ft).tr (fun a j p q r s z => xup2_n (by omega)), a3.st1 (by omega) (by omega) (by omega), by show i < r.2.2; omega, .inl ⟨rfl, ?_, ?_⟩, fun j hj => ⟨?_, ?_⟩⟩
      · rw [e1, a1]
        unfold c46_132
        simp (disch := omega) only [cq_gi, cq_gr, cq_a, cq_s, cq_p, cq_pr, cq_is, cq_ar, cq_ab, cq_ln, xq_nz, Option.bind_some, xup2_n, xup2_s, Int.toNat_natCast, Int.reduceToNat, if_pos, if_neg, true_and, and_true, and_self, eq_self, if_true, reduceIte, not_true_eq_false, not_false_eq_true, or_true, true_or, us6, cth]
      · rw [xup2_n (by omega), z1, xup2_s]
      · rw [xup2_s]
      · rw [xup2_n (by omega), z1, xup2_n (by omega)]
      · rw [xup2_n (by omega), z2, xup2_n (by omega)]
  · rw [if_neg c2]
    by_cases c3 : kK t i = 3
    · rw [if_pos c3]
      obtain ⟨l1, l2⟩ := hE.lt hA (by omega)
      obtain ⟨b1, b2⟩ := k_37 (f := f) (m := m) (hX 3).1 (hX 3).2.1 (by omega)
      obtain ⟨d1, d2⟩ := (hX 3).at b2 (by omega)
      refine ⟨_, ?_, (hft 3).tr d1.ft, d2, Nat.lt_succ_self i, .inr (.inl ⟨rfl, ?_⟩), fun j hj => ⟨?_, ?_⟩⟩
      · unfold c46_41b c46_85 c46_91
        simp (disch := omega) only [cq_gi, cq_gr, cq_a, cq_s, cq_p, cq_pr, cq_is, cq_ar, cq_ab, cq_ln, xq_nz, Option.bind_some, xup2_n, xup2_s, Int.toNat_natCast, Int.reduceToNat, if_pos, if_neg, true_and, and_true, and_self, eq_self, if_true, reduceIte, not_true_eq_false, not_false_eq_true, or_true, true_or, s72 hs, s65 hs, s67 hs, p72_0 hp, p65_3 hp, us, us5, u1, up12, k1, k3, c3, e4, b1]
      · rw [xup2_n (by omega), xup2_s]
      · rw [xup2_n (by omega), xup2_n (by omega)]
      · rw [xup2_n (by omega), xup2_n (by omega)]
    · rw [if_neg c3]
      have p51 := k_51 (f := f) (m := m) hok (hX 4).1 (hX 4).2.1
      have e1 : c46_41b r41 f 72 kd sp p (l : Int) (c : Int) (S, G, m) = ((c51 f 72 (S, xup2 G (u + 5) (4 * l + c) 4, m)).bind fun R186 => cth R186 (fun v192 => c46_132 r41 f 72 kd sp p (l : Int) (c : Int) v192 ((4 * l + c : Nat) : Int) (u + 6) R186.2)) := by
        unfold c46_41b c46_91
        simp (disch := omega) only [cq_gi, cq_gr, cq_a, cq_s, cq_p, cq_pr, cq_is, cq_ar, cq_ab, cq_ln, xq_nz, Option.bind_some, xup2_n, xup2_s, Int.toNat_natCast, Int.reduceToNat, if_pos, if_neg, true_and, and_true, and_self, eq_self, if_true, reduceIte, not_true_eq_false, not_false_eq_true, or_true, true_or, s72 hs, s65 hs, s67 hs, p72_0 hp, p65_3 hp, us, us5, us6, u1, up12, up13, k1, k3, e4]
      cases hpv : pVal t i with
      | inl x =>
        rw [hpv] at p51
        obtain ⟨v, p51⟩ := p51
        refine ⟨xup2 (xup2 G (u + 5) (4 * l + c) 4) 72 1 v, ?_, (hft 4).tr (fun a j p q r s z => xup2_n (by omega))⟩
        rw [e1, p51]
        rfl
      | inr r =>
        rw [hpv] at p51
        obtain ⟨a1, a2⟩ := p51
        have hr := (pVal_le hpv).1
        have hrN : r.2 ≤ N := by
          unfold pVal at hpv
          repeat' split at hpv
          all_goals first
            | (cases hpv; done)
            | skip
          · cases hpv
            exact (hE.lt hA (by omega)).1
          · cases hpv
            have z0 := hE.lt hA (by omega)
            exact Nat.lt_of_not_le (fun q => by have := (hE.2.2.2.2.1 (i + 1) q).1; omega)
          · cases hpv
            exact (hE.lt hA (by omega)).1
        obtain ⟨d1, d2⟩ := (hX 4).at a2 hrN
        refine ⟨xup2 (xup2 (xup2 G (u + 5) (4 * l + c) 4) 72 1 ((min r.2 N : Nat) : Int)) (u + 6) (4 * l + c) r.1, ?_, ((hft 4).tr d1.ft).tr (fun a j p q r s z => xup2_n (by omega)), d2.st1 (by omega) (by omega) (by omega), by show i < r.2; omega, .inr (.inr ⟨rfl, ?_, ?_⟩), fun j hj => ⟨?_, ?_⟩⟩
        · rw [e1, a1]
          unfold c46_132
          simp (disch := omega) only [cq_gi, cq_gr, cq_a, cq_s, cq_p, cq_pr, cq_is, cq_ar, cq_ab, cq_ln, xq_nz, Option.bind_some, xup2_n, xup2_s, Int.toNat_natCast, Int.reduceToNat, if_pos, if_neg, true_and, and_true, and_self, eq_self, if_true, reduceIte, not_true_eq_false, not_false_eq_true, or_true, true_or, us6, cth]
        · rw [xup2_n (by omega), xup2_n (by omega), xup2_s]
        · rw [xup2_s]
        · rw [xup2_n (by omega), xup2_n (by omega), xup2_n (by omega)]
        · rw [xup2_n (by omega), xup2_n (by omega), xup2_n (by omega)]
def cTs (G : xG_) (u l : Nat) (ts : pCd) : Prop := ∀ c, c < ts.length → cTm (G (u + 5) (4 * l + c)) (G (u + 6) (4 * l + c)) (ts.getD c (0, 0))
/-- TERMS -/
theorem k_terms {kd sp p : Int} (hf : 20 < f) (hok : tOk t) (hvi : vIn t B n) (hl : l < 8) : ∀ (k : Nat) (ts : pCd) (V : List (Int × Nat)) (i : Nat) (G : xG_) (fu : Nat), ts.length + k = 3 → k < fu → cXr S G B n t N w u V K i → cTs G u l ts → pok (pbind (pTerm t V i) fun r => pTerms t k (ts ++ [r.1]) r.2.1 r.2.2) (fun x => ∃ G', c46_41 f fu 72 kd sp p (l : Int) (ts.length : Int) (S, G, m) = some (.inl 0, cWr S G' m (x : Int)) ∧ xFt u l G G')
    (fun r => ∃ G', c46_41 f fu 72 kd sp p (l : Int) (ts.length : Int) (S, G, m) = c46_149 f 72 kd sp p (l : Int) (r.1.length : Int) (S, G', m) ∧ xFt u l G G' ∧ cXr S G' B n t N w u r.2.1 K r.2.2 ∧ i < r.2.2 ∧ cTs G' u l r.1 ∧ 1 ≤ r.1.length ∧ r.1.length ≤ 4) := by
  intro k
  induction k with
  | zero =>
    intro ts V i G fu h1 h2 h hT
    obtain ⟨fu, rfl⟩ : ∃ t, fu = t + 1 := ⟨fu - 1, by omega⟩
    have e3 : ts.length = 3 := by omega
    have p1 := k_term (m := m) (kd := kd) (sp := sp) (p := p) (r41 := c46_41 f fu) (c := ts.length) hf hok hvi hl (by omega) h
    have hs := h.1.1
    cases hp : pTerm t V i with
    | inl x => rw [hp] at p1; exact p1
    | inr r =>
      rw [hp] at p1
      obtain ⟨G1, a1, a2, a3, a4, a5, a6⟩ := p1
      refine ⟨G1, ?_, a2, a3, a4, fun c hc => ?_, ?_, ?_⟩
      · show c46_41b (c46_41 f fu) f 72 _ _ _ _ _ _ = _
        rw [a1]
        unfold c46_133
        have el : ((ts ++ [r.1]).length : Int) = 4 := by rw [len1, e3]; rfl
        have e4 : xwr ((ts.length : Int) + 1) = 4 := by rw [e3]; decide
        rw [e4, if_pos (by decide), el]
      · rw [len1] at hc
        rw [getD_1]
        by_cases cc : c = ts.length
        · rw [if_pos cc, cc]; exact a5
        · rw [if_neg cc, (a6 _ (by omega)).1, (a6 _ (by omega)).2]
          exact hT c (by omega)
      · show 1 ≤ (ts ++ [r.1]).length; rw [len1]; omega
      · show (ts ++ [r.1]).length ≤ 4; rw [len1]; omega
  | succ k ih =>
    intro ts V i G fu h1 h2 h hT
    obtain ⟨fu, rfl⟩ : ∃ t, fu = t + 1 := ⟨fu - 1, by omega⟩
    have p1 := k_term (m := m) (kd := kd) (sp := sp) (p := p) (r41 := c46_41 f fu) (c := ts.length) hf hok hvi hl (by omega) h
    have hs := h.1.1
    cases hp : pTerm t V i with
    | inl x => rw [hp] at p1; exact p1
    | inr r =>
      rw [hp] at p1
      obtain ⟨G1, a1, a2, a3, a4, a5, a6⟩ := p1
      have hT1 : cTs G1 u l (ts ++ [r.1]) := by
        intro c hc
        rw [len1] at hc
        rw [getD_1]
        by_cases cc : c = ts.length
        · rw [if_pos cc, cc]; exact a5
        · rw [if_neg cc, (a6 _ (by omega)).1, (a6 _ (by omega)).2]
          exact hT c (by omega)
      have el : ((ts ++ [r.1]).length : Int) = (ts.length : Int) + 1 := by rw [len1]; omega
      have e4 : xwr ((ts.length : Int) + 1) = ((ts ++ [r.1]).length : Int) := by rw [el, xwr_g _ (by omega) (by omega)]
      have e5 : c46_41 f (fu + 1) 72 kd sp p (l : Int) (ts.length : Int) (S, G, m) = ((c39 f 72 (S, G1, m)).bind fun R163 => (if ¬ (R163.1) = 0 then c46_41 f fu 72 kd sp p (l : Int) ((ts ++ [r.1]).length : Int) R163.2 else c46_149 f 72 kd sp p (l : Int) ((ts ++ [r.1]).length : Int) R163.2)) := by
        show c46_41b (c46_41 f fu) f 72 _ _ _ _ _ _ = _
        rw [a1]
        unfold c46_133
        rw [e4, if_neg (by omega)]
        simp (disch := omega) only [cq_gi, cq_gr, cq_a, cq_s, cq_p, cq_pr, cq_is, cq_ar, cq_ab, cq_ln, xq_nz, Option.bind_some, xup2_n, xup2_s, Int.toNat_natCast, Int.reduceToNat, if_pos, if_neg, true_and, and_true, and_self, eq_self, if_true, reduceIte, not_true_eq_false, not_false_eq_true, or_true, true_or, s72 hs]
      obtain ⟨g1, g2⟩ := k_39 (f := f) (m := m) a3.1 a3.2.1
      show pok (pTerms t (k + 1) (ts ++ [r.1]) r.2.1 r.2.2) _ _
      unfold pTerms
      by_cases c4 : kK t r.2.2 = 44
      · rw [if_pos c4]
        obtain ⟨b1, b2⟩ := g1 c4
        have hlt := (a3.1.lt a3.2.1 (by omega)).1
        obtain ⟨d1, d2⟩ := a3.at b2 (by omega)
        have q := ih (ts ++ [r.1]) r.2.1 (r.2.2 + 1) _ fu (by rw [len1]; omega) (by omega) d2 (fun c hc => by
          have hu := h.2.2.2.1.2.1
          rw [d1 (u + 5) (4 * l + c) (by omega) (by omega) (by omega) (by omega), d1 (u + 6) (4 * l + c) (by omega) (by omega) (by omega) (by omega)]
          exact hT1 c hc)
        rw [e5, b1]
        cases hz : (pbind (pTerm t r.2.1 (r.2.2 + 1)) fun r_1 => pTerms t k (ts ++ [r.1] ++ [r_1.1]) r_1.2.1 r_1.2.2) with
        | inl x =>
          rw [hz] at q
          obtain ⟨G2, y1, y2⟩ := q
          exact ⟨G2, y1, (a2.tr d1.ft).tr y2⟩
        | inr z =>
          rw [hz] at q
          obtain ⟨G2, y1, y2, y3, y4, y5⟩ := q
          exact ⟨G2, y1, (a2.tr d1.ft).tr y2, y3, by omega, y5⟩
      · rw [if_neg c4]
        refine ⟨G1, ?_, a2, a3, a4, hT1, by show 1 ≤ (ts ++ [r.1]).length; rw [len1]; omega, by show (ts ++ [r.1]).length ≤ 4; rw [len1]; omega⟩
        rw [e5, g2 c4]
        rfl
end
