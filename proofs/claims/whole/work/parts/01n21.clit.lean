section
/-! THE CLASS reads ATOMS -/
/-- the program that is read, or that a text speaks of -/
def cPr0 (S : Nat → Nat × Nat × Nat) (G : xG_) (q : Nat) (tell : Bool) (L : List Int) : Prop := G 72 3 = (q : Int) ∧ 82 < q ∧ (tell = true → 278 < q) ∧ G 72 4 = b01 tell ∧ cPgS S q ∧ cPgP G q ∧ cNs G q L
def cTm (k v : Int) (x : Int × Int) : Prop := x.1 = 1 ∧ k = 2 ∧ v = x.2 ∨ x.1 = 2 ∧ k = 3 ∨ x.1 = 3 ∧ k = 4 ∧ v = x.2
def xFn (tell : Bool) (q : Nat) (G G' : xG_) : Prop := ∀ a j, ¬ (a = 72 ∧ j = 1) → ¬ (tell = true ∧ (a = q ∧ j = 1 ∨ a = q + 1)) → G' a j = G a j
def xFt (u l : Nat) (G G' : xG_) : Prop := ∀ a j, ¬ (a = 72 ∧ (j = 1 ∨ j = 2)) → a ≠ 77 → ¬ (a = u ∧ j = 6) → a ≠ u + 1 → ¬ ((a = u + 5 ∨ a = u + 6) ∧ 4 * l ≤ j) → G' a j = G a j
section
variable {f n N w i u q l : Nat} {S : Nat → Nat × Nat × Nat} {G G' G'' : xG_} {m : Nat × Nat} {B : Nat → Int} {t : tStr} {V V' : List (Int × Nat)} {K K' : pCd} {L : List Int} {tell : Bool}
theorem xFt.id : xFt u l G G := fun _ _ _ _ _ _ _ => rfl
theorem xFt.tr (h : xFt u l G G') (h' : xFt u l G' G'') : xFt u l G G'' := fun a j p q r s z => by rw [h' a j p q r s z, h a j p q r s z]
theorem xF0.ft (h : xF0 u G G') : xFt u l G G' := fun a j p q r s z => h a j p q r s
theorem cRu0.ge (h : cRu0 S G u) (h5 : G' 72 5 = G 72 5) (hp : ∀ j, 7 ≤ j → j ≠ 8 → j ≠ 16 → j ≠ 17 → G' u j = G u j) : cRu0 S G' u := by
  obtain ⟨h1, h2, h3, h4, h5', h6, h7, h8, h9, h10, h11, h12, h13⟩ := h
  refine ⟨by rw [h5]; exact h1, h2, h3, ?_⟩
  unfold cRuP
  rw [hp 7 (by decide) (by decide) (by decide) (by decide), hp 9 (by decide) (by decide) (by decide) (by decide), hp 10 (by decide) (by decide) (by decide) (by decide), hp 11 (by decide) (by decide) (by decide) (by decide), hp 12 (by decide) (by decide) (by decide) (by decide), hp 13 (by decide) (by decide) (by decide) (by decide), hp 14 (by decide) (by decide) (by decide) (by decide), hp 15 (by decide) (by decide) (by decide) (by decide), hp 18 (by decide) (by decide) (by decide) (by decide), hp 19 (by decide) (by decide) (by decide) (by decide)]
  exact ⟨h4, h5', h6, h7, h8, h9, h10, h11, h12, h13⟩
theorem cXr.b {i' : Nat} (h : cXr S G B n t N w u V K i) (hb : ∀ a j, ¬ (a = 72 ∧ (j = 1 ∨ j = 2 ∨ j = 9 ∨ j = 12 ∨ j = 14)) → ¬ (73 ≤ a ∧ a ≤ 82) → a < 279 → G' a j = G a j) (hp : ∀ j, 7 ≤ j → j ≠ 8 → j ≠ 16 → j ≠ 17 → G' u j = G u j) (h1 : cAt G' N w i') (h2 : i' ≤ N) (h3 : cVs G' B n u V') (h4 : vVs t V') (h5 : cCo G' K') : cXr S G' B n t N w u V' K' i' :=
  ⟨h.1.ge (fun _ _ => rfl) (fun a j p q r => hb a j (by omega) q r), h1, h2, h.2.2.2.1.ge (hb 72 5 (by omega) (by omega) (by omega)) hp, h3, h4, h5⟩
/-- a store that reading doesn't see -/
theorem cXr.st (h : cXr S G B n t N w u V K i) (h0 : ∀ a j, (a < 279 ∧ a ≠ 78 ∧ a ≠ 79 ∧ a ≠ 80 ∧ a ≠ 81 ∧ a ≠ 82 ∧ ¬ (a = 72 ∧ j = 14)) → G' a j = G a j) (h6 : ∀ j, 6 ≤ j → j ≠ 8 → j ≠ 16 → j ≠ 17 → G' u j = G u j) (h7 : ∀ j, G' (u + 1) j = G (u + 1) j) : cXr S G' B n t N w u V K i :=
  h.b (fun a j p q r => h0 a j (by omega)) (fun j p q r s => h6 j (by omega) q r s) ⟨by rw [h0 72 1 (by omega)]; exact h.2.1.1, h.2.1.2⟩ h.2.2.1 (h.2.2.2.2.1.ge (h6 6 (by decide) (by decide) (by decide) (by decide)) (fun j => h0 77 j (by omega)) h7) h.2.2.2.2.2.1 (h.2.2.2.2.2.2.ge (h0 72 9 (by omega)) (fun j => h0 73 j (by omega)) (fun j => h0 74 j (by omega)))
theorem cXr.st1 {a j : Nat} {v : Int} (h : cXr S G B n t N w u V K i) (h1 : 278 < a) (h2 : a ≠ u + 1) (h3 : ¬ (a = u ∧ (6 ≤ j ∧ j ≠ 8 ∧ j ≠ 16 ∧ j ≠ 17))) : cXr S (xup2 G a j v) B n t N w u V K i := h.st (fun b k p => xup2_n (by omega)) (fun k p q r s => xup2_n (by omega)) (fun k => xup2_n (by omega))
/-- NAMES -/
theorem k_pred (hf : 20 < f) (hE : cEv S G B n t N w) (hA : cAt G N w i) (hr : cPr0 S G q tell L) : pok (if tell = true then pPred t L i else pbind (pName t i) fun r => .inr (pIdx L r.1, L, r.2)) (fun x => c47 f 72 (S, G, m) = some (.inl 0, cWr S G m (x : Int)) ∨ ∃ v, ∃ G1 : xG_, c47 f 72 (S, G, m) = some (.inr v, (S, G1, m)) ∧ c48 f 72 v (kS t i : Int) (S, G1, m) = some (.inl 0, cWr S G1 m (x : Int)) ∧ xFn false q G G1)
    (fun r => ∃ v G1 G2, c47 f 72 (S, G, m) = some (.inr v, (S, G1, m)) ∧ c48 f 72 v (kS t i : Int) (S, G1, m) = some (.inr r.1, (S, G2, m)) ∧ xFn tell q G G2 ∧ r.2.2 = i + 1 ∧ i + 1 ≤ N ∧ cAt G2 N w (i + 1) ∧ cNs G2 q r.2.1) := by
  obtain ⟨r1, r2, r3, r4, r5, r6, r7⟩ := hr
  have p := k_47 (f := f) (m := m) hE hA
  cases hn : pName t i with
  | inl x =>
    rw [hn] at p
    cases tell with
    | true => rw [if_pos rfl]; unfold pPred; rw [hn]; exact .inl p
    | false => rw [if_neg (by decide)]; exact .inl p
  | inr r =>
    rw [hn] at p
    obtain ⟨a1, a2, a3, a4⟩ := p
    have hlt := (hE.lt hA (by omega)).1
    have hs := hE.1
    have b1 : xup2 G 72 1 ((min r.2 N : Nat) : Int) 72 3 = (q : Int) := by rw [xup2_n (by omega)]; exact r1
    have b4 : xup2 G 72 1 ((min r.2 N : Nat) : Int) 72 4 = b01 tell := by rw [xup2_n (by omega)]; exact r4
    have b6 : cPgP (xup2 G 72 1 ((min r.2 N : Nat) : Int)) q := by
      unfold cPgP at r6 ⊢
      rw [xup2_n (by omega), xup2_n (by omega), xup2_n (by omega), xup2_n (by omega), xup2_n (by omega), xup2_n (by omega), xup2_n (by omega), xup2_n (by omega), xup2_n (by omega), xup2_n (by omega)]
      exact r6
    have b7 : cNs (xup2 G 72 1 ((min r.2 N : Nat) : Int)) q L := ⟨by rw [xup2_n (by omega)]; exact r7.1, r7.2.1, fun k hk => by rw [xup2_n (by omega)]; exact r7.2.2 k hk⟩
    obtain ⟨c1, c2, c3⟩ := k_48 (f := f) (m := m) (x := r.1) (y := (kS t i : Int)) hf hs b1 r2 b4 r5 b6 b7
    have hx : xFn false q G (xup2 G 72 1 ((min r.2 N : Nat) : Int)) := fun a j p _ => xup2_n (by omega)
    cases tell with
    | false =>
      rw [if_neg (by decide)]
      exact ⟨_, _, _, a1, c3 (fun q => by cases q.2), fun a j p _ => xup2_n (by omega), a2, by omega, by rw [a2] at a4 ⊢; exact a4, b7⟩
    | true =>
      rw [if_pos rfl]
      unfold pPred
      rw [hn]
      show pok (if pIdx L r.1 = -1 then (if L.length = 16 then .inl (kS t i) else .inr ((L.length : Int), L ++ [r.1], r.2)) else .inr (pIdx L r.1, L, r.2)) _ _
      by_cases d1 : pIdx L r.1 = -1
      · rw [if_pos d1]
        by_cases d2 : L.length = 16
        · rw [if_pos d2]
          exact .inr ⟨_, _, a1, c1 ⟨d1, rfl, d2⟩, hx⟩
        · rw [if_neg d2]
          obtain ⟨e1, e2⟩ := c2 ⟨d1, rfl, d2⟩
          have hq := r3 rfl
          refine ⟨_, _, _, a1, e1, fun a j p z => ?_, a2, by omega, ?_, e2⟩
          · have z' : ¬ (a = q ∧ j = 1 ∨ a = q + 1) := fun y => z ⟨rfl, y⟩
            rw [xup2_n (by omega), xup2_n (by omega), xup2_n (by omega)]
          · rw [a2] at a4 ⊢
            exact ⟨by rw [xup2_n (by omega), xup2_n (by omega)]; exact a4.1, a4.2⟩
      · rw [if_neg d1]
        exact ⟨_, _, _, a1, c3 (fun q => d1 q.1), fun a j p _ => xup2_n (by omega), a2, by omega, by rw [a2] at a4 ⊢; exact a4, b7⟩
/-- a TERM -/
theorem k_term {kd sp p : Int} {c : Nat} {r41 : Nat → Int → Int → Int → Int → Int → xT_ → Option ((Nat ⊕ Unit) × xT_)} (hf : 20 < f) (hok : tOk t) (hvi : vIn t B n) (hl : l < 8) (hc : c < 4) (h : cXr S G B n t N w u V K i) : pok (pTerm t V i) (fun x => ∃ G', c46_41b r41 f 72 kd sp p (l : Int) (c : Int) (S, G, m) = some (.inl 0, cWr S G' m (x : Int)) ∧ xFt u l G G')
    (fun r => ∃ G', c46_41b r41 f 72 kd sp p (l : Int) (c : Int) (S, G, m) = c46_133 r41 f 72 kd sp p (l : Int) (c : Int) (S, G', m) ∧ xFt u l G G' ∧ cXr S G' B n t N w u r.2.1 K r.2.2 ∧ i < r.2.2 ∧ cTm (G' (u + 5) (4 * l + c)) (G' (u + 6) (4 * l + c)) r.1 ∧ ∀ j, j ≠ 4 * l + c → G' (u + 5) j = G (u + 5) j ∧ G' (u + 6) j = G (u + 6) j) := by
  have hE := h.1
  have hA := h.2.1
  obtain ⟨k1, k2, k3, k4⟩ := hE.tk hA
  have hs := hE.1
  have hp := hE.2.1
  obtain ⟨u1, u2, ⟨us, us1, us2, us3, us4, us5, us6, _⟩, ⟨up7, up9, up10, up11, up12, up13, _⟩⟩ := h.2.2.2.1
  have e4 : xwr (xwr (4 * (l : Int)) + (c : Int)) = ((4 * l + c : Nat) : Int) := by rw [xwr_g (4 * (l : Int)) (by omega) (by omega), xwr_g _ (by omega) (by omega)]; omega
  have hft : ∀ v, xFt u l G (xup2 G (u + 5) (4 * l + c) v) := fun v a j p q r s z => xup2_n (by omega)
  have hX : ∀ v, cXr S (xup2 G (u + 5) (4 * l + c) v) B n t N w u V K i := fun v => h.st1 (by omega) (by omega) (by omega)
  unfold pTerm
  by_cases c2 : kK t i = 2
  · rw [if_pos c2]
    have p49 := k_49r (m := m) hf hvi (hX 2)
    have e1 : c46_41b r41 f 72 kd sp p (l : Int) (c : Int) (S, G, m) = ((c49 f 72 (S, xup2 G (u + 5) (4 * l + c) 2, m)).bind fun R194 => cth R194 (fun v200 => c46_132 r41 f 72 kd sp p (l : Int) (c : Int) v200 ((4 * l + c : Nat) : Int) (u + 6) R194.2)) := by
      unfold c46_41b c46_85 c46_91
      simp (disch := omega) only [cq_gi, cq_gr, cq_a, cq_s, cq_p, cq_pr, cq_is, cq_ar, cq_ab, cq_ln, xq_nz, Option.bind_some, xup2_n, xup2_s, Int.toNat_natCast, Int.reduceToNat, if_pos, if_neg, true_and, and_true, and_self, eq_self, if_true, reduceIte, not_true_eq_false, not_false_eq_true, or_true, true_or, s72 hs, s65 hs, s67 hs, p72_0 hp, p65_3 hp, us, us5, us6, u1, up12, up13, k1, k3, c2, e4]
    cases hpv : pVar t V i with
    | inl x =>
      rw [hpv] at p49
      refine ⟨_, ?_, hft 2⟩
      have p49' : c49 f 72 (S, xup2 G (u + 5) (4 * l + c) 2, m) = _ := p49
      rw [e1, p49']
      rfl
    | inr r =>
      rw [hpv] at p49
      obtain ⟨G1, a1, a2, a3⟩ := p49
      have hr := (pVar_le hpv).1
      have z1 : ∀ j, G1 (u + 5) j = xup2 G (u + 5) (4 * l + c) 2 (u + 5) j := fun j => a2 _ _ (by omega) (by omega) (by omega) (by omega)
      have z2 : ∀ j, G1 (u + 6) j = xup2 G (u + 5) (4 * l + c) 2 (u + 6) j := fun j => a2 _ _ (by omega) (by omega) (by omega) (by omega)
      refine ⟨xup2 G1 (u + 6) (4 * l + c) r.1, ?_, ((hft 2).tr a2.ft).tr (fun a j p q r s z => xup2_n (by omega)), a3.st1 (by omega) (by omega) (by omega), by show i < r.2.2; omega, .inl ⟨rfl, ?_, ?_⟩, fun j hj => ⟨?_, ?_⟩⟩
      · rw [e1, a1]
        unfold c46_132
        simp (disch := omega) only [cq_gi, cq_gr, cq_a, cq_s, cq_p, cq_pr, cq_is, cq_ar, cq_ab, cq_ln, xq_nz, Option.bind_some, xup2_n, xup2_s, Int.toNat_natCast, Int.reduceToNat, if_pos, if_neg, true_and, and_true, and_self, eq_self, if_true, reduceIte, not_true_eq_false, not_false_eq_true, or_true, true_or, us6, cth]
      · rw [xup2_n (by omega), z1, xup2_s]
      · rw [xup2_s]
      · rw [xup2_n (by omega), z1, xup2_n (by omega)]
      · rw [xup2_n (by omega), z2, xup2_n (by omega)]
  · rw [if_neg c2]
    by_cases c3 : kK t i = 3
    · rw [if_pos c3]
      obtain ⟨l1, l2⟩ := hE.lt hA (by omega)
      obtain ⟨b1, b2⟩ := k_37 (f := f) (m := m) (hX 3).1 (hX 3).2.1 (by omega)
      obtain ⟨d1, d2⟩ := (hX 3).at b2 (by omega)
      refine ⟨_, ?_, (hft 3).tr d1.ft, d2, Nat.lt_succ_self i, .inr (.inl ⟨rfl, ?_⟩), fun j hj => ⟨?_, ?_⟩⟩
      · unfold c46_41b c46_85 c46_91
        simp (disch := omega) only [cq_gi, cq_gr, cq_a, cq_s, cq_p, cq_pr, cq_is, cq_ar, cq_ab, cq_ln, xq_nz, Option.bind_some, xup2_n, xup2_s, Int.toNat_natCast, Int.reduceToNat, if_pos, if_neg, true_and, and_true, and_self, eq_self, if_true, reduceIte, not_true_eq_false, not_false_eq_true, or_true, true_or, s72 hs, s65 hs, s67 hs, p72_0 hp, p65_3 hp, us, us5, u1, up12, k1, k3, c3, e4, b1]
      · rw [xup2_n (by omega), xup2_s]
      · rw [xup2_n (by omega), xup2_n (by omega)]
      · rw [xup2_n (by omega), xup2_n (by omega)]
    · rw [if_neg c3]
      have p51 := k_51 (f := f) (m := m) hok (hX 4).1 (hX 4).2.1
      have e1 : c46_41b r41 f 72 kd sp p (l : Int) (c : Int) (S, G, m) = ((c51 f 72 (S, xup2 G (u + 5) (4 * l + c) 4, m)).bind fun R186 => cth R186 (fun v192 => c46_132 r41 f 72 kd sp p (l : Int) (c : Int) v192 ((4 * l + c : Nat) : Int) (u + 6) R186.2)) := by
        unfold c46_41b c46_91
        simp (disch := omega) only [cq_gi, cq_gr, cq_a, cq_s, cq_p, cq_pr, cq_is, cq_ar, cq_ab, cq_ln, xq_nz, Option.bind_some, xup2_n, xup2_s, Int.toNat_natCast, Int.reduceToNat, if_pos, if_neg, true_and, and_true, and_self, eq_self, if_true, reduceIte, not_true_eq_false, not_false_eq_true, or_true, true_or, s72 hs, s65 hs, s67 hs, p72_0 hp, p65_3 hp, us, us5, us6, u1, up12, up13, k1, k3, e4]
      cases hpv : pVal t i with
      | inl x =>
        rw [hpv] at p51
        obtain ⟨v, p51⟩ := p51
        refine ⟨xup2 (xup2 G (u + 5) (4 * l + c) 4) 72 1 v, ?_, (hft 4).tr (fun a j p q r s z => xup2_n (by omega))⟩
        rw [e1, p51]
        rfl
      | inr r =>
        rw [hpv] at p51
        obtain ⟨a1, a2⟩ := p51
        have hr := (pVal_le hpv).1
        have hrN : r.2 ≤ N := by
          unfold pVal at hpv
          repeat' split at hpv
          all_goals first
            | (cases hpv; done)
            | skip
          · cases hpv
            exact (hE.lt hA (by omega)).1
          · cases hpv
            have z0 := hE.lt hA (by omega)
            exact Nat.lt_of_not_le (fun q => by have := (hE.2.2.2.2.1 (i + 1) q).1; omega)
          · cases hpv
            exact (hE.lt hA (by omega)).1
        obtain ⟨d1, d2⟩ := (hX 4).at a2 hrN
        refine ⟨xup2 (xup2 (xup2 G (u + 5) (4 * l + c) 4) 72 1 ((min r.2 N : Nat) : Int)) (u + 6) (4 * l + c) r.1, ?_, ((hft 4).tr d1.ft).tr (fun a j p q r s z => xup2_n (by omega)), d2.st1 (by omega) (by omega) (by omega), by show i < r.2; omega, .inr (.inr ⟨rfl, ?_, ?_⟩), fun j hj => ⟨?_, ?_⟩⟩
        · rw [e1, a1]
          unfold c46_132
          simp (disch := omega) only [cq_gi, cq_gr, cq_a, cq_s, cq_p, cq_pr, cq_is, cq_ar, cq_ab, cq_ln, xq_nz, Option.bind_some, xup2_n, xup2_s, Int.toNat_natCast, Int.reduceToNat, if_pos, if_neg, true_and, and_true, and_self, eq_self, if_true, reduceIte, not_true_eq_false, not_false_eq_true, or_true, true_or, us6, cth]
        · rw [xup2_n (by omega), xup2_n (by omega), xup2_s]
        · rw [xup2_s]
        · rw [xup2_n (by omega), xup2_n (by omega), xup2_n (by omega)]
        · rw [xup2_n (by omega), xup2_n (by omega), xup2_n (by omega)]
def cTs (G : xG_) (u l : Nat) (ts : pCd) : Prop := ∀ c, c < ts.length → cTm (G (u + 5) (4 * l + c)) (G (u + 6) (4 * l + c)) (ts.getD c (0, 0))
/-- TERMS -/
theorem k_terms {kd sp p : Int} (hf : 20 < f) (hok : tOk t) (hvi : vIn t B n) (hl : l < 8) : ∀ (k : Nat) (ts : pCd) (V : List (Int × Nat)) (i : Nat) (G : xG_) (fu : Nat), ts.length + k = 3 → k < fu → cXr S G B n t N w u V K i → cTs G u l ts → pok (pbind (pTerm t V i) fun r => pTerms t k (ts ++ [r.1]) r.2.1 r.2.2) (fun x => ∃ G', c46_41 f fu 72 kd sp p (l : Int) (ts.length : Int) (S, G, m) = some (.inl 0, cWr S G' m (x : Int)) ∧ xFt u l G G')
    (fun r => ∃ G', c46_41 f fu 72 kd sp p (l : Int) (ts.length : Int) (S, G, m) = c46_149 f 72 kd sp p (l : Int) (r.1.length : Int) (S, G', m) ∧ xFt u l G G' ∧ cXr S G' B n t N w u r.2.1 K r.2.2 ∧ i < r.2.2 ∧ cTs G' u l r.1 ∧ 1 ≤ r.1.length ∧ r.1.length ≤ 4) := by
  intro k
  induction k with
  | zero =>
    intro ts V i G fu h1 h2 h hT
    obtain ⟨fu, rfl⟩ : ∃ t, fu = t + 1 := ⟨fu - 1, by omega⟩
    have e3 : ts.length = 3 := by omega
    have p1 := k_term (m := m) (kd := kd) (sp := sp) (p := p) (r41 := c46_41 f fu) (c := ts.length) hf hok hvi hl (by omega) h
    have hs := h.1.1
    cases hp : pTerm t V i with
    | inl x => rw [hp] at p1; exact p1
    | inr r =>
      rw [hp] at p1
      obtain ⟨G1, a1, a2, a3, a4, a5, a6⟩ := p1
      refine ⟨G1, ?_, a2, a3, a4, fun c hc => ?_, ?_, ?_⟩
      · show c46_41b (c46_41 f fu) f 72 _ _ _ _ _ _ = _
        rw [a1]
        unfold c46_133
        have el : ((ts ++ [r.1]).length : Int) = 4 := by rw [len1, e3]; rfl
        have e4 : xwr ((ts.length : Int) + 1) = 4 := by rw [e3]; decide
        rw [e4, if_pos (by decide), el]
      · rw [len1] at hc
        rw [getD_1]
        by_cases cc : c = ts.length
        · rw [if_pos cc, cc]; exact a5
        · rw [if_neg cc, (a6 _ (by omega)).1, (a6 _ (by omega)).2]
          exact hT c (by omega)
      · show 1 ≤ (ts ++ [r.1]).length; rw [len1]; omega
      · show (ts ++ [r.1]).length ≤ 4; rw [len1]; omega
  | succ k ih =>
    intro ts V i G fu h1 h2 h hT
    obtain ⟨fu, rfl⟩ : ∃ t, fu = t + 1 := ⟨fu - 1, by omega⟩
    have p1 := k_term (m := m) (kd := kd) (sp := sp) (p := p) (r41 := c46_41 f fu) (c := ts.length) hf hok hvi hl (by omega) h
    have hs := h.1.1
    cases hp : pTerm t V i with
    | inl x => rw [hp] at p1; exact p1
    | inr r =>
      rw [hp] at p1
      obtain ⟨G1, a1, a2, a3, a4, a5, a6⟩ := p1
      have hT1 : cTs G1 u l (ts ++ [r.1]) := by
        intro c hc
        rw [len1] at hc
        rw [getD_1]
        by_cases cc : c = ts.length
        · rw [if_pos cc, cc]; exact a5
        · rw [if_neg cc, (a6 _ (by omega)).1, (a6 _ (by omega)).2]
          exact hT c (by omega)
      have el : ((ts ++ [r.1]).length : Int) = (ts.length : Int) + 1 := by rw [len1]; omega
      have e4 : xwr ((ts.length : Int) + 1) = ((ts ++ [r.1]).length : Int) := by rw [el, xwr_g _ (by omega) (by omega)]
      have e5 : c46_41 f (fu + 1) 72 kd sp p (l : Int) (ts.length : Int) (S, G, m) = ((c39 f 72 (S, G1, m)).bind fun R163 => (if ¬ (R163.1) = 0 then c46_41 f fu 72 kd sp p (l : Int) ((ts ++ [r.1]).length : Int) R163.2 else c46_149 f 72 kd sp p (l : Int) ((ts ++ [r.1]).length : Int) R163.2)) := by
        show c46_41b (c46_41 f fu) f 72 _ _ _ _ _ _ = _
        rw [a1]
        unfold c46_133
        rw [e4, if_neg (by omega)]
        simp (disch := omega) only [cq_gi, cq_gr, cq_a, cq_s, cq_p, cq_pr, cq_is, cq_ar, cq_ab, cq_ln, xq_nz, Option.bind_some, xup2_n, xup2_s, Int.toNat_natCast, Int.reduceToNat, if_pos, if_neg, true_and, and_true, and_self, eq_self, if_true, reduceIte, not_true_eq_false, not_false_eq_true, or_true, true_or, s72 hs]
      obtain ⟨g1, g2⟩ := k_39 (f := f) (m := m) a3.1 a3.2.1
      show pok (pTerms t (k + 1) (ts ++ [r.1]) r.2.1 r.2.2) _ _
      unfold pTerms
      by_cases c4 : kK t r.2.2 = 44
      · rw [if_pos c4]
        obtain ⟨b1, b2⟩ := g1 c4
        have hlt := (a3.1.lt a3.2.1 (by omega)).1
        obtain ⟨d1, d2⟩ := a3.at b2 (by omega)
        have q := ih (ts ++ [r.1]) r.2.1 (r.2.2 + 1) _ fu (by rw [len1]; omega) (by omega) d2 (fun c hc => by
          have hu := h.2.2.2.1.2.1
          rw [d1 (u + 5) (4 * l + c) (by omega) (by omega) (by omega) (by omega), d1 (u + 6) (4 * l + c) (by omega) (by omega) (by omega) (by omega)]
          exact hT1 c hc)
        rw [e5, b1]
        cases hz : (pbind (pTerm t r.2.1 (r.2.2 + 1)) fun r_1 => pTerms t k (ts ++ [r.1] ++ [r_1.1]) r_1.2.1 r_1.2.2) with
        | inl x =>
          rw [hz] at q
          obtain ⟨G2, y1, y2⟩ := q
          exact ⟨G2, y1, (a2.tr d1.ft).tr y2⟩
        | inr z =>
          rw [hz] at q
          obtain ⟨G2, y1, y2, y3, y4, y5⟩ := q
          exact ⟨G2, y1, (a2.tr d1.ft).tr y2, y3, by omega, y5⟩
      · rw [if_neg c4]
        refine ⟨G1, ?_, a2, a3, a4, hT1, by show 1 ≤ (ts ++ [r.1]).length; rw [len1]; omega, by show (ts ++ [r.1]).length ≤ 4; rw [len1]; omega⟩
        rw [e5, g2 c4]
        rfl
end
end
section
/-! THE CLASS: mentions, n of predicates, LITERALS -/
def mKd (x : Int) : Int := if x = 1 then 6 else if x = 2 then 7 else if x = 3 then 14 else 15
/-- mentions -/
def cMe (G : xG_) (M : List pMn) : Prop := G 72 14 = (M.length : Int) ∧ ∀ k, k < M.length → G 78 k = mN M k ∧ G 79 k = mKd (mW M k) ∧ G 80 k = (mP M k : Int) ∧ (mK M k ≠ -1 → G 81 k = mK M k)
def mPos (M : List pMn) : Prop := ∀ k, k < M.length → mK M k = -1 ∨ 1 ≤ mK M k
/-- n of the predicates -/
def cWd (G : xG_) (q : Nat) (M : List pMn) : Prop := ∀ p : Nat, p < 16 → G (q + 2) p = pNn M p
/-- an EXPRESSION of a rule: its code lies in K -/
def cSg (G : xG_) (u : Nat) (K : pCd) (s : Nat) (E : pCd) : Prop := ∃ A C : pCd, K = A ++ E.map cOp ++ C ∧ G (u + 7) s = (A.length : Int) ∧ G (u + 8) s = ((A.length + E.length : Nat) : Int)
def cLt (G : xG_) (u : Nat) (K : pCd) (l : Nat) (x : pLt) : Prop := (x.1 = 1 ∨ x.1 = 2) ∧ G (u + 2) l = (if x.1 = 1 then 15 else 9) ∧ G (u + 3) l = x.2.1 ∧ G (u + 4) l = (x.2.2.2.1.length : Int) ∧ x.2.2.2.1.length ≤ 4 ∧ cTs G u l x.2.2.2.1 ∨
  x.1 = 3 ∧ G (u + 2) l = x.2.1 ∧ (x.2.1 = 61 ∨ x.2.1 = 257 ∨ x.2.1 = 60 ∨ x.2.1 = 258 ∨ x.2.1 = 62 ∨ x.2.1 = 259) ∧ cSg G u K (4 + 2 * l) x.2.2.2.2.1 ∧ cSg G u K (5 + 2 * l) x.2.2.2.2.2
def cLs (G : xG_) (u : Nat) (K : pCd) (L : List pLt) : Prop := G u 8 = (L.length : Int) ∧ L.length ≤ 8 ∧ ∀ l, l < L.length → cLt G u K l (L.getD l (0, 0, 0, [], [], []))
/-- what reading LITERALS leaves as it was -/
def xF2 (tell : Bool) (q u : Nat) (G G' : xG_) : Prop := ∀ a j, ¬ (a = 72 ∧ (j = 1 ∨ j = 2 ∨ j = 9 ∨ j = 12 ∨ j = 14)) → ¬ (73 ≤ a ∧ a ≤ 81) → ¬ (tell = true ∧ (a = q ∧ j = 1 ∨ a = q + 1 ∨ a = q + 2)) → ¬ (a = u ∧ (j = 6 ∨ j = 8)) → ¬ (u + 1 ≤ a ∧ a ≤ u + 6) → ¬ ((a = u + 7 ∨ a = u + 8) ∧ 4 ≤ j) → G' a j = G a j
/-- LITERALS are read -/
def cRL (S : Nat → Nat × Nat × Nat) (G : xG_) (B : Nat → Int) (n : Nat) (t : tStr) (N w q u : Nat) (tell : Bool) (s : pRs) (K : pCd) (i0 : Nat) : Prop := cXr S G B n t N w u s.2.1 K s.2.2.2.2 ∧ cPr0 S G q tell s.1 ∧ q + 10 < u ∧ cMe G s.2.2.2.1 ∧ (tell = true → cWd G q s.2.2.2.1 ∧ mPos s.2.2.2.1) ∧ cLs G u K s.2.2.1 ∧ 3 * s.2.2.2.1.length ≤ s.2.2.2.2 ∧ K.length + i0 ≤ s.2.2.2.2
theorem m_1 (M : List pMn) (y : pMn) (k : Nat) : mN (M ++ [y]) k = (if k = M.length then y.1 else mN M k) ∧ mP (M ++ [y]) k = (if k = M.length then y.2.1 else mP M k) ∧ mK (M ++ [y]) k = (if k = M.length then y.2.2.1 else mK M k) ∧ mW (M ++ [y]) k = (if k = M.length then y.2.2.2 else mW M k) := by
  unfold mN mP mK mW
  rw [getD_1]
  by_cases c : k = M.length
  · simp only [if_pos c]; exact ⟨trivial, trivial, trivial, trivial⟩
  · simp only [if_neg c]; exact ⟨trivial, trivial, trivial, trivial⟩
theorem pNn_yes {M : List pMn} {x : Int} {j : Nat} (hj : j < M.length) (h : mN M j = x ∧ mK M j ≠ -1) (hf : ∀ y, y < j → ¬ (mN M y = x ∧ mK M y ≠ -1)) : pNn M x = mK M j := by
  unfold pNn
  cases e : pFst M x M.length 0 with
  | none => exact absurd h (pFst_none _ _ e j (Nat.zero_le _) (by omega))
  | some i =>
    obtain ⟨a1, a2, a3, a4, a5⟩ := pFst_some _ _ _ e
    have : i = j := by
      rcases Nat.lt_trichotomy i j with q | q | q
      · exact absurd ⟨a3, a4⟩ (hf i q)
      · exact q
      · exact absurd h (a5 j (Nat.zero_le _) q)
    rw [this]
theorem pNn_no {M : List pMn} {x : Int} (hf : ∀ y, y < M.length → ¬ (mN M y = x ∧ mK M y ≠ -1)) : pNn M x = 0 := by
  unfold pNn
  cases e : pFst M x M.length 0 with
  | none => rfl
  | some i =>
    obtain ⟨a1, a2, a3, a4, a5⟩ := pFst_some _ _ _ e
    exact absurd ⟨a3, a4⟩ (hf i (by omega))
theorem pNn_nn {M : List pMn} (hm : mPos M) (x : Int) : 0 ≤ pNn M x := by
  unfold pNn
  cases e : pFst M x M.length 0 with
  | none => exact Int.le_refl 0
  | some i =>
    obtain ⟨a1, a2, a3, a4, a5⟩ := pFst_some _ _ _ e
    have := hm i (by omega)
    show 0 ≤ mK M i
    omega
theorem pNn_1 {M : List pMn} (hm : mPos M) (y : pMn) (x : Int) : pNn (M ++ [y]) x = if pNn M x = 0 then (if y.1 = x ∧ y.2.2.1 ≠ -1 then y.2.2.1 else 0) else pNn M x := by
  have e1 : ∀ k, k < M.length → mN (M ++ [y]) k = mN M k ∧ mK (M ++ [y]) k = mK M k := fun k hk => by
    have := m_1 M y k
    rw [if_neg (by omega), if_neg (by omega), if_neg (by omega), if_neg (by omega)] at this
    exact ⟨this.1, this.2.2.1⟩
  have e2 : mN (M ++ [y]) M.length = y.1 ∧ mK (M ++ [y]) M.length = y.2.2.1 := by
    have := m_1 M y M.length
    rw [if_pos rfl, if_pos rfl, if_pos rfl, if_pos rfl] at this
    exact ⟨this.1, this.2.2.1⟩
  cases e : pFst M x M.length 0 with
  | none =>
    have hn := pFst_none _ _ e
    have z : pNn M x = 0 := pNn_no (fun k hk => hn k (Nat.zero_le _) (by omega))
    rw [if_pos z]
    by_cases c : y.1 = x ∧ y.2.2.1 ≠ -1
    · rw [if_pos c, pNn_yes (j := M.length) (by rw [len1]; omega) (by rw [e2.1, e2.2]; exact c) (fun k hk => by rw [(e1 k hk).1, (e1 k hk).2]; exact hn k (Nat.zero_le _) (by omega)), e2.2]
    · rw [if_neg c]
      refine pNn_no (fun k hk => ?_)
      rw [len1] at hk
      by_cases ck : k = M.length
      · rw [ck, e2.1, e2.2]; exact c
      · rw [(e1 k (by omega)).1, (e1 k (by omega)).2]; exact hn k (Nat.zero_le _) (by omega)
  | some i =>
    obtain ⟨a1, a2, a3, a4, a5⟩ := pFst_some _ _ _ e
    have z : pNn M x = mK M i := pNn_yes (by omega) ⟨a3, a4⟩ (fun k hk => a5 k (Nat.zero_le _) hk)
    have := hm i (by omega)
    rw [if_neg (by rw [z]; omega), z, ← (e1 i (by omega)).2]
    exact pNn_yes (by rw [len1]; omega) (by rw [(e1 i (by omega)).1, (e1 i (by omega)).2]; exact ⟨a3, a4⟩) (fun k hk => by rw [(e1 k (by omega)).1, (e1 k (by omega)).2]; exact a5 k (Nat.zero_le _) hk)
theorem mPos_1 {M : List pMn} (hm : mPos M) {y : pMn} (hy : y.2.2.1 = -1 ∨ 1 ≤ y.2.2.1) : mPos (M ++ [y]) := by
  intro k hk
  rw [len1] at hk
  rw [(m_1 M y k).2.2.1]
  by_cases c : k = M.length
  · rw [if_pos c]; exact hy
  · rw [if_neg c]; exact hm k (by omega)
section
variable {f n N w i u q l : Nat} {S : Nat → Nat × Nat × Nat} {G G' G'' : xG_} {m : Nat × Nat} {B : Nat → Int} {t : tStr} {V V' : List (Int × Nat)} {K K' : pCd} {L : List Int} {tell : Bool} {M : List pMn}
theorem xF2.id : xF2 tell q u G G := fun _ _ _ _ _ _ _ _ => rfl
theorem xF2.tr (h : xF2 tell q u G G') (h' : xF2 tell q u G' G'') : xF2 tell q u G G'' := fun a j p1 p2 p3 p4 p5 p6 => by rw [h' a j p1 p2 p3 p4 p5 p6, h a j p1 p2 p3 p4 p5 p6]
theorem xF1.f2 (h : xF1 u G G') : xF2 tell q u G G' := fun a j p1 p2 p3 p4 p5 p6 => h a j (by omega) (by omega) (by omega) (by omega)
theorem xFt.f2 (h : xFt u l G G') : xF2 tell q u G G' := fun a j p1 p2 p3 p4 p5 p6 => h a j (by omega) (by omega) (by omega) (by omega) (by omega)
theorem xFn.f2 (h : xFn tell q G G') : xF2 tell q u G G' := fun a j p1 p2 p3 p4 p5 p6 => h a j (by omega) (fun z => p3 ⟨z.1, by omega⟩)
theorem cMe.ge (h : cMe G M) (h0 : G' 72 14 = G 72 14) (h1 : ∀ a j, 78 ≤ a → a ≤ 81 → G' a j = G a j) : cMe G' M := by
  refine ⟨by rw [h0]; exact h.1, fun k hk => ?_⟩
  rw [h1 78 k (by omega) (by omega), h1 79 k (by omega) (by omega), h1 80 k (by omega) (by omega), h1 81 k (by omega) (by omega)]
  exact h.2 k hk
theorem cWd.ge (h : cWd G q M) (h0 : ∀ j, G' (q + 2) j = G (q + 2) j) : cWd G' q M := fun p hp => by rw [h0]; exact h p hp
theorem cTs.ge {ts : pCd} (h : cTs G u l ts) (h0 : ∀ j, j < 4 * l + 4 → G' (u + 5) j = G (u + 5) j ∧ G' (u + 6) j = G (u + 6) j) (h4 : ts.length ≤ 4) : cTs G' u l ts := fun c hc => by
  rw [(h0 _ (by omega)).1, (h0 _ (by omega)).2]; exact h c hc
theorem cSg.ge {s : Nat} {E D : pCd} (h : cSg G u K s E) (h7 : G' (u + 7) s = G (u + 7) s) (h8 : G' (u + 8) s = G (u + 8) s) : cSg G' u (K ++ D) s E := by
  obtain ⟨A, C, a1, a2, a3⟩ := h
  exact ⟨A, C ++ D, by rw [a1, List.append_assoc], by rw [h7]; exact a2, by rw [h8]; exact a3⟩
/-- LITERALS stay -/
theorem cLt.ge {x : pLt} {D : pCd} (h : cLt G u K l x) (h0 : ∀ a, u + 2 ≤ a → a ≤ u + 4 → G' a l = G a l) (h5 : ∀ j, j < 4 * l + 4 → G' (u + 5) j = G (u + 5) j ∧ G' (u + 6) j = G (u + 6) j) (h7 : ∀ j, j < 6 + 2 * l → 4 ≤ j → G' (u + 7) j = G (u + 7) j ∧ G' (u + 8) j = G (u + 8) j) : cLt G' u (K ++ D) l x := by
  rcases h with ⟨a1, a2, a3, a4, a5, a6⟩ | ⟨a1, a2, a3, a4, a5⟩
  · exact .inl ⟨a1, by rw [h0 _ (by omega) (by omega)]; exact a2, by rw [h0 _ (by omega) (by omega)]; exact a3, by rw [h0 _ (by omega) (by omega)]; exact a4, a5, a6.ge h5 a5⟩
  · exact .inr ⟨a1, by rw [h0 _ (by omega) (by omega)]; exact a2, a3, a4.ge (h7 _ (by omega) (by omega)).1 (h7 _ (by omega) (by omega)).2, a5.ge (h7 _ (by omega) (by omega)).1 (h7 _ (by omega) (by omega)).2⟩
theorem cPgP.ge (h : cPgP G q) (h0 : ∀ j, 2 ≤ j → j ≠ 8 → j ≠ 12 → G' q j = G q j) : cPgP G' q := by
  unfold cPgP at h ⊢
  rw [h0 2 (by decide) (by decide) (by decide), h0 3 (by decide) (by decide) (by decide), h0 4 (by decide) (by decide) (by decide), h0 5 (by decide) (by decide) (by decide), h0 6 (by decide) (by decide) (by decide), h0 7 (by decide) (by decide) (by decide), h0 9 (by decide) (by decide) (by decide), h0 10 (by decide) (by decide) (by decide), h0 11 (by decide) (by decide) (by decide), h0 13 (by decide) (by decide) (by decide)]
  exact h
theorem cNs.ge (h : cNs G q L) (h0 : G' q 1 = G q 1) (h1 : ∀ j, G' (q + 1) j = G (q + 1) j) : cNs G' q L := ⟨by rw [h0]; exact h.1, h.2.1, fun k hk => by rw [h1]; exact h.2.2 k hk⟩
theorem cPr0.ge (h : cPr0 S G q tell L) (h3 : G' 72 3 = G 72 3) (h4 : G' 72 4 = G 72 4) (hq : ∀ j, 1 ≤ j → j ≠ 8 → j ≠ 12 → G' q j = G q j) (hn : ∀ j, G' (q + 1) j = G (q + 1) j) : cPr0 S G' q tell L := by
  obtain ⟨a1, a2, a3, a4, a5, a6, a7⟩ := h
  exact ⟨by rw [h3]; exact a1, a2, a3, by rw [h4]; exact a4, a5, a6.ge (fun j p r s => hq j (by omega) r s), a7.ge (hq 1 (by decide) (by decide) (by decide)) hn⟩
/-- one more mention -/
theorem cMe.add {k p s d : Int} {y : pMn} (h : cMe G M) (h1 : p = y.1) (h2 : k = mKd y.2.2.2) (h3 : s = (y.2.1 : Int)) (h4 : y.2.2.1 ≠ -1 → d = y.2.2.1) : cMe (xup2 (xup2 (xup2 (xup2 (xup2 G 79 M.length k) 78 M.length p) 80 M.length s) 81 M.length d) 72 14 ((M.length + 1 : Nat) : Int)) (M ++ [y]) := by
  refine ⟨by rw [xup2_s, len1], fun j hj => ?_⟩
  rw [len1] at hj
  obtain ⟨e1, e2, e3, e4⟩ := m_1 M y j
  rw [e1, e2, e3, e4]
  by_cases c : j = M.length
  · rw [if_pos c, if_pos c, if_pos c, if_pos c, c]
    refine ⟨?_, ?_, ?_, fun z => ?_⟩
    · rw [xup2_n (by omega), xup2_n (by omega), xup2_n (by omega), xup2_s]; exact h1
    · rw [xup2_n (by omega), xup2_n (by omega), xup2_n (by omega), xup2_n (by omega), xup2_s]; exact h2
    · rw [xup2_n (by omega), xup2_n (by omega), xup2_s]; exact h3
    · rw [xup2_n (by omega), xup2_s]; exact h4 z
  · rw [if_neg c, if_neg c, if_neg c, if_neg c]
    obtain ⟨a1, a2, a3, a4⟩ := h.2 j (by omega)
    have z : ∀ a, a ≠ 72 → xup2 (xup2 (xup2 (xup2 (xup2 G 79 M.length k) 78 M.length p) 80 M.length s) 81 M.length d) 72 14 ((M.length + 1 : Nat) : Int) a j = G a j := fun a ha => by
      rw [xup2_n (by omega), xup2_n (by omega), xup2_n (by omega), xup2_n (by omega), xup2_n (by omega)]
    rw [z 78 (by decide), z 79 (by decide), z 80 (by decide), z 81 (by decide)]
    exact ⟨a1, a2, a3, a4⟩
theorem mUp {k p s d : Int} {c : Nat} {x : Int} (a j : Nat) (h : ¬ (a = 72 ∧ j = 14)) (h' : ¬ (78 ≤ a ∧ a ≤ 81)) : xup2 (xup2 (xup2 (xup2 (xup2 G 79 c k) 78 c p) 80 c s) 81 c d) 72 14 x a j = G a j := by
  rw [xup2_n (by omega), xup2_n (by omega), xup2_n (by omega), xup2_n (by omega), xup2_n (by omega)]
/-- tellWidth() -/
theorem k_23 {p c : Nat} (hS : cPgS S q) (hP : cPgP G q) (hp : p < 16) (hm : mPos M) (hw : cWd G q M) {y : pMn} (hy : y.1 = (p : Int)) (hc : y.2.2.1 = (c : Int)) (h1 : 1 ≤ c) : ∃ G', c23 f q (p : Int) (c : Int) (S, G, m) = some (S, G', m) ∧ cWd G' q (M ++ [y]) ∧ ∀ a j, a ≠ q + 2 → G' a j = G a j := by
  have e := hw p hp
  by_cases z : pNn M p = 0
  · rw [z] at e
    refine ⟨xup2 G (q + 2) p (c : Int), ?_, fun x hx => ?_, fun a j h => xup2_n (by omega)⟩
    · unfold c23 c23_16
      simp (disch := omega) only [cq_gi, cq_gr, cq_a, cq_s, cq_p, cq_pr, cq_is, cq_ar, cq_ab, cq_ln, xq_nz, Option.bind_some, xup2_n, xup2_s, Int.toNat_natCast, Int.reduceToNat, if_pos, if_neg, true_and, and_true, and_self, eq_self, if_true, reduceIte, not_true_eq_false, not_false_eq_true, or_true, true_or, hS.1, hS.2.2.1, hP.2.1, e]
    · rw [pNn_1 hm]
      by_cases cx : x = p
      · rw [cx, xup2_s, if_pos z, if_pos ⟨hy, by omega⟩, hc]
      · rw [xup2_n (by omega), hw x hx, if_neg (fun k : y.1 = (x : Int) ∧ y.2.2.1 ≠ -1 => by have := k.1; omega)]
        split
        · assumption
        · rfl
  · refine ⟨G, ?_, fun x hx => ?_, fun _ _ _ => rfl⟩
    · unfold c23 c23_16
      have hne : ¬ G (q + 2) p = 0 := by rw [e]; exact z
      simp (disch := omega) only [cq_gi, cq_gr, cq_a, cq_s, cq_p, cq_pr, cq_is, cq_ar, cq_ab, cq_ln, xq_nz, Option.bind_some, xup2_n, xup2_s, Int.toNat_natCast, Int.reduceToNat, if_pos, if_neg, true_and, and_true, and_self, eq_self, if_true, reduceIte, not_true_eq_false, not_false_eq_true, or_true, true_or, hS.1, hS.2.2.1, hP.2.1, hne]
    · rw [pNn_1 hm, hw x hx]
      by_cases cx : x = p
      · rw [cx, if_neg z]
      · rw [if_neg (fun k : y.1 = (x : Int) ∧ y.2.2.1 ≠ -1 => by have := k.1; omega)]
        split
        · assumption
        · rfl
end
end
section
/-! THE CLASS reads ATOMS: all -/
def xFa (tell : Bool) (q u l : Nat) (G G' : xG_) : Prop := ∀ a j, ¬ (a = 72 ∧ (j = 1 ∨ j = 14)) → ¬ (78 ≤ a ∧ a ≤ 81) → ¬ (tell = true ∧ a = q + 2) → ¬ (a = u ∧ j = 8) → ¬ ((u + 2 ≤ a ∧ a ≤ u + 4) ∧ j = l) → G' a j = G a j
section
variable {f n N w i u q l : Nat} {S : Nat → Nat × Nat × Nat} {G G' G'' : xG_} {m : Nat × Nat} {B : Nat → Int} {t : tStr} {V V' : List (Int × Nat)} {K K' : pCd} {L : List Int} {tell : Bool} {M : List pMn}
theorem xFa.f2 (h : xFa tell q u l G G') : xF2 tell q u G G' := fun a j p1 p2 p3 p4 p5 p6 => h a j (by omega) (by omega) (fun z => p3 ⟨z.1, by omega⟩) (by omega) (by omega)
/-- the stores behind an ATOM -/
def aUp (G : xG_) (u l : Nat) (kd p c : Int) : xG_ := xup2 (xup2 (xup2 (xup2 G (u + 2) l kd) (u + 3) l p) (u + 4) l c) u 8 ((l + 1 : Nat) : Int)
theorem aUp_n {kd p c : Int} (a j : Nat) (h : ¬ (a = u ∧ j = 8)) (h' : ¬ ((u + 2 ≤ a ∧ a ≤ u + 4) ∧ j = l)) : aUp G u l kd p c a j = G a j := by
  unfold aUp
  rw [xup2_n (by omega), xup2_n (by omega), xup2_n (by omega), xup2_n (by omega)]
theorem aUp_s {kd p c : Int} : aUp G u l kd p c (u + 2) l = kd ∧ aUp G u l kd p c (u + 3) l = p ∧ aUp G u l kd p c (u + 4) l = c ∧ aUp G u l kd p c u 8 = ((l + 1 : Nat) : Int) := by
  unfold aUp
  refine ⟨?_, ?_, ?_, xup2_s _ _ _ _⟩
  · rw [xup2_n (by omega), xup2_n (by omega), xup2_n (by omega), xup2_s]
  · rw [xup2_n (by omega), xup2_n (by omega), xup2_s]
  · rw [xup2_n (by omega), xup2_s]
theorem aUp_x {kd p c : Int} (h : cXr S G B n t N w u V K i) : cXr S (aUp G u l kd p c) B n t N w u V K i := by
  have hu := h.2.2.2.1.2.1
  exact h.st (fun b k z => aUp_n b k (by omega) (by omega)) (fun k p q r s => aUp_n u k (by omega) (by omega)) (fun k => aUp_n (u + 1) k (by omega) (by omega))
/-- the stores of a mention -/
def mSt (G : xG_) (c : Nat) (k p s d : Int) : xG_ := xup2 (xup2 (xup2 (xup2 (xup2 G 79 c k) 78 c p) 80 c s) 81 c d) 72 14 ((c + 1 : Nat) : Int)
theorem mSt_n {k p s d : Int} {c : Nat} (a j : Nat) (h : ¬ (a = 72 ∧ j = 14)) (h' : ¬ (78 ≤ a ∧ a ≤ 81)) : mSt G c k p s d a j = G a j := by
  unfold mSt
  exact mUp a j h h'
theorem mSt_m {k p s d : Int} {y : pMn} (h : cMe G M) (h1 : p = y.1) (h2 : k = mKd y.2.2.2) (h3 : s = (y.2.1 : Int)) (h4 : y.2.2.1 ≠ -1 → d = y.2.2.1) : cMe (mSt G M.length k p s d) (M ++ [y]) := by
  unfold mSt
  exact h.add h1 h2 h3 h4
theorem mSt_40 {c : Nat} {k p s d : Int} (hs : cSs S) (hp : cPs G) (h : G 72 14 = (c : Int)) (hc : c < 1024) : c40 f 72 k p s d (S, G, m) = some (S, mSt G c k p s d, m) := by
  unfold mSt
  exact k_40 hs hp h hc
theorem mSt_x {k p s d : Int} {c : Nat} (h : cXr S G B n t N w u V K i) : cXr S (mSt G c k p s d) B n t N w u V K i := by
  have hu := h.2.2.2.1.2.1
  exact h.st (fun b k z => mSt_n b k (by omega) (by omega)) (fun k p q r s => mSt_n u k (by omega) (by omega)) (fun k => mSt_n (u + 1) k (by omega) (by omega))
theorem cPr0.fa (hr : cPr0 S G q tell L) (hqu : q + 10 < u) (h : xFa false 0 u l G G') : cPr0 S G' q tell L := by
  have hq82 := hr.2.1
  exact hr.ge (h 72 3 (by omega) (by omega) (fun z => nomatch z.1) (by omega) (by omega)) (h 72 4 (by omega) (by omega) (fun z => nomatch z.1) (by omega) (by omega)) (fun k z1 z2 z3 => h q k (by omega) (by omega) (fun z => nomatch z.1) (by omega) (by omega)) (fun k => h (q + 1) k (by omega) (by omega) (fun z => nomatch z.1) (by omega) (by omega))
theorem cWd.fa (hw : cWd G q M) (hq82 : 82 < q) (hqu : q + 10 < u) (h : xFa false 0 u l G G') : cWd G' q M := hw.ge (fun k => h (q + 2) k (by omega) (by omega) (fun z => nomatch z.1) (by omega) (by omega))
theorem aUp_f {kd p c : Int} (h : ∀ a j, ¬ (a = 72 ∧ j = 1) → G' a j = G a j) : ∀ a j, ¬ (a = 72 ∧ j = 1) → ¬ (a = u ∧ j = 8) → ¬ ((u + 2 ≤ a ∧ a ≤ u + 4) ∧ j = l) → aUp G' u l kd p c a j = G a j := fun a j z1 z2 z3 => by rw [aUp_n a j z2 z3, h a j z1]
theorem aUp_m {kd p c : Int} (hu : 278 < u) (h : cMe G M) : cMe (aUp G u l kd p c) M := h.ge (aUp_n _ _ (by omega) (by omega)) (fun a k z1 z2 => aUp_n _ _ (by omega) (by omega))
theorem at_m {v : Int} (h : cMe G M) : cMe (xup2 G 72 1 v) M := h.ge (xup2_n (by omega)) (fun a k z1 z2 => xup2_n (by omega))
theorem aUp_fa {kd p c v : Int} {k' s' d' : Int} {e : Nat} (hu : 278 < u) : xFa false 0 u l G (mSt (aUp (xup2 G 72 1 v) u l kd p c) e k' p s' d') := fun a j z1 z2 z3 z4 z5 => by
  rw [mSt_n a j (by omega) z2, aUp_n a j z4 z5, xup2_n (by omega)]
theorem aUp_ss {kd p c : Int} {k' s' d' : Int} {e : Nat} (hu : 278 < u) : mSt (aUp G u l kd p c) e k' p s' d' (u + 2) l = kd ∧ mSt (aUp G u l kd p c) e k' p s' d' (u + 3) l = p ∧ mSt (aUp G u l kd p c) e k' p s' d' (u + 4) l = c ∧ mSt (aUp G u l kd p c) e k' p s' d' u 8 = ((l + 1 : Nat) : Int) := by
  rw [mSt_n _ _ (by omega) (by omega), mSt_n _ _ (by omega) (by omega), mSt_n _ _ (by omega) (by omega), mSt_n _ _ (by omega) (by omega)]
  exact aUp_s
theorem k_149_1 {kd p sp : Int} {c : Nat} (h : cXr S G B n t N w u V K i) (hM : cMe G M) (hl8 : G u 8 = (l : Int)) (hl : l < 8) (hm : M.length < 1024) {s : Nat} (hsp : sp = (s : Int)) :
    pok (pNeed t 41 i) (fun x => c46_149 f 72 kd sp p (l : Int) (c : Int) (S, G, m) = some (.inl 0, cWr S G m (x : Int)))
      (fun j => ∃ G', c46_149 f 72 kd sp p (l : Int) (c : Int) (S, G, m) = ((cq_gi 4 4 20 72 (S, G', m)).bind fun v151 => (if v151 = 0 then c46_229 f (S, G', m) else ((cq_gr 4 3 20 72 (S, G', m)).bind fun v154 => ((cq_is 3 14 v154 (S, G', m)).bind fun _ => ((c23 f v154 p (c : Int) (S, G', m)).bind fun R156 => c46_229 f R156))))) ∧ j = i + 1 ∧ cXr S G' B n t N w u V K j ∧ cMe G' (M ++ [(p, s, (c : Int), 4)]) ∧ (G' (u + 2) l = kd ∧ G' (u + 3) l = p ∧ G' (u + 4) l = (c : Int) ∧ G' u 8 = ((l + 1 : Nat) : Int)) ∧ xFa false 0 u l G G') := by
  have hs := h.1.1
  obtain ⟨u1, u2, ⟨us, us1, us2, us3, us4, _⟩, w7, w9, w10, w11, _⟩ := h.2.2.2.1
  have p38 := k_38 (f := f) (m := m) (c := 41) (by decide) h.1 h.2.1
  cases hn : pNeed t 41 i with
  | inl x =>
    rw [hn] at p38
    have p38' : c38 f 72 41 (S, G, m) = _ := p38
    show c46_149 f 72 kd sp p (l : Int) (c : Int) (S, G, m) = _
    unfold c46_149
    simp (disch := omega) only [cq_gi, cq_gr, cq_a, cq_s, cq_p, cq_pr, cq_is, cq_ar, cq_ab, cq_ln, xq_nz, Option.bind_some, xup2_n, xup2_s, Int.toNat_natCast, Int.reduceToNat, if_pos, if_neg, true_and, and_true, and_self, eq_self, if_true, reduceIte, not_true_eq_false, not_false_eq_true, or_true, true_or, s72 hs, p38', cth]
  | inr j =>
    rw [hn] at p38
    obtain ⟨a1, a2, a3, a4⟩ := p38
    have hlt := (h.1.lt h.2.1 (by omega)).1
    obtain ⟨b1, b2⟩ := h.at a4 (by omega)
    have el : xwr ((l : Int) + 1) = ((l + 1 : Nat) : Int) := by rw [xwr_g _ (by omega) (by omega)]; omega
    have d2 := aUp_x (l := l) (kd := kd) (p := p) (c := (c : Int)) b2
    have hM2 := aUp_m (u := u) (l := l) (kd := kd) (p := p) (c := (c : Int)) u2 (at_m (v := ((min j N : Nat) : Int)) hM)
    have e40 := mSt_40 (f := f) (m := m) (k := 15) (p := p) (s := sp) (d := (c : Int)) hs d2.1.2.1 hM2.1 hm
    have e1 : c46_149 f 72 kd sp p (l : Int) (c : Int) (S, G, m) = ((c40 f 72 15 p sp (c : Int) (S, aUp (xup2 G 72 1 ((min j N : Nat) : Int)) u l kd p (c : Int), m)).bind fun R145 => ((cq_gi 4 4 20 72 R145).bind fun v151 => (if v151 = 0 then c46_229 f R145 else ((cq_gr 4 3 20 72 R145).bind fun v154 => ((cq_is 3 14 v154 R145).bind fun _ => ((c23 f v154 p (c : Int) R145).bind fun R156 => c46_229 f R156)))))) := by
      clear e40 hM2 d2
      unfold c46_149 aUp
      simp (disch := omega) only [cq_gi, cq_gr, cq_a, cq_s, cq_p, cq_pr, cq_is, cq_ar, cq_ab, cq_ln, xq_nz, Option.bind_some, xup2_n, xup2_s, Int.toNat_natCast, Int.reduceToNat, if_pos, if_neg, true_and, and_true, and_self, eq_self, if_true, reduceIte, not_true_eq_false, not_false_eq_true, or_true, true_or, s72 hs, us, us2, us3, us4, a1, cth, u1, w9, w10, w11, hl8, el]
    refine ⟨_, by rw [e1, e40]; rfl, a2, mSt_x d2, mSt_m (k := 15) (p := p) (s := sp) (d := (c : Int)) (y := (p, s, (c : Int), 4)) hM2 rfl rfl hsp (fun _ => rfl), aUp_ss u2, aUp_fa u2⟩
theorem k_46_149a {kd p sp : Int} {c : Nat} (hT : tell = true → cWd G q M ∧ mPos M ∧ ∃ p' : Nat, p = p' ∧ p' < 16) (h : cXr S G B n t N w u V K i) (hr : cPr0 S G q tell L) (hqu : q + 10 < u) (hM : cMe G M) (hl8 : G u 8 = (l : Int)) (hl : l < 8) (hc1 : 1 ≤ c) (hm : M.length < 1024) {s : Nat} (hsp : sp = (s : Int)) :
    pok (pNeed t 41 i) (fun x => c46_149 f 72 kd sp p (l : Int) (c : Int) (S, G, m) = some (.inl 0, cWr S G m (x : Int)))
      (fun j => ∃ G', c46_149 f 72 kd sp p (l : Int) (c : Int) (S, G, m) = some (.inr (), (S, G', m)) ∧ j = i + 1 ∧ cXr S G' B n t N w u V K j ∧ cPr0 S G' q tell L ∧ cMe G' (M ++ [(p, s, (c : Int), 4)]) ∧ (tell = true → cWd G' q (M ++ [(p, s, (c : Int), 4)])) ∧ (G' (u + 2) l = kd ∧ G' (u + 3) l = p ∧ G' (u + 4) l = (c : Int) ∧ G' u 8 = ((l + 1 : Nat) : Int)) ∧ xFa tell q u l G G') := by
  have hs := h.1.1
  have pp := k_149_1 (f := f) (m := m) (kd := kd) (p := p) (c := c) h hM hl8 hl hm hsp
  cases hn : pNeed t 41 i with
  | inl x => rw [hn] at pp; exact pp
  | inr j =>
    rw [hn] at pp
    obtain ⟨G3, e1, a2, d3, hM3, hs3, zz⟩ := pp
    have hr3 := hr.fa hqu zz
    have h4 := hr3.2.2.2.1
    cases tell with
    | false =>
      refine ⟨G3, ?_, a2, d3, hr3, hM3, (by intro z; cases z), hs3, fun a k z1 z2 z3 z4 z5 => zz a k z1 z2 (fun z => nomatch z.1) z4 z5⟩
      have h4' : G3 72 4 = (0 : Int) := h4
      rw [e1]
      unfold c46_229
      simp (disch := omega) only [cq_gi, cq_gr, cq_a, cq_s, cq_p, cq_pr, cq_is, cq_ar, cq_ab, cq_ln, xq_nz, Option.bind_some, xup2_n, xup2_s, Int.toNat_natCast, Int.reduceToNat, if_pos, if_neg, true_and, and_true, and_self, eq_self, if_true, reduceIte, not_true_eq_false, not_false_eq_true, or_true, true_or, s72 hs, h4']
    | true =>
      obtain ⟨t1, t2, p', t3, t4⟩ := hT rfl
      have hq := hr.2.2.1 rfl
      have hW3 := t1.fa hr.2.1 hqu zz
      obtain ⟨G5, f1, f2, f3⟩ := k_23 (f := f) (m := m) (p := p') (c := c) hr3.2.2.2.2.1 hr3.2.2.2.2.2.1 t4 t2 hW3 (y := (p, s, (c : Int), 4)) t3 rfl hc1
      have h4' : G3 72 4 = (1 : Int) := h4
      have h3' := hr3.1
      have hq1 := hr3.2.2.2.2.1.1
      rw [← t3] at f1
      refine ⟨G5, ?_, a2, ?_, ?_, ?_, fun _ => f2, ?_, fun a k z1 z2 z3 z4 z5 => ?_⟩
      · rw [e1]
        unfold c46_229
        simp (disch := omega) only [cq_gi, cq_gr, cq_a, cq_s, cq_p, cq_pr, cq_is, cq_ar, cq_ab, cq_ln, xq_nz, Option.bind_some, xup2_n, xup2_s, Int.toNat_natCast, Int.reduceToNat, if_pos, if_neg, true_and, and_true, and_self, eq_self, if_true, reduceIte, not_true_eq_false, not_false_eq_true, or_true, true_or, s72 hs, h4', h3', hq1, f1]
      · clear h4 h4' h3' e1 hs3 hM hM3 hl8
        exact d3.st (fun a k z => f3 a k (by omega)) (fun k z1 z2 z3 z4 => f3 u k (by omega)) (fun k => f3 (u + 1) k (by omega))
      · clear h4 h4' h3' e1 hs3 hM hM3 hl8
        exact hr3.ge (f3 _ _ (by omega)) (f3 _ _ (by omega)) (fun k z1 z2 z3 => f3 _ _ (by omega)) (fun k => f3 _ _ (by omega))
      · clear h4 h4' h3' e1 hs3 hl8
        exact hM3.ge (f3 _ _ (by omega)) (fun a k z1 z2 => f3 _ _ (by omega))
      · rw [f3 (u + 2) l (by omega), f3 (u + 3) l (by omega), f3 (u + 4) l (by omega), f3 u 8 (by omega)]; exact hs3
      · rw [f3 a k (fun y => z3 ⟨rfl, y⟩)]; exact zz a k z1 z2 (fun z => nomatch z.1) z4 z5
end
end
section
/-! THE CLASS reads ATOMS: readAtom() -/
section
variable {f n N w i i' u q l : Nat} {S : Nat → Nat × Nat × Nat} {G G' G'' : xG_} {m : Nat × Nat} {B : Nat → Int} {t : tStr} {V V' : List (Int × Nat)} {K K' : pCd} {L L' : List Int} {tell : Bool} {M : List pMn}
theorem cXr.fn (h : cXr S G B n t N w u V K i) (hx : xFn tell q G G') (hq : tell = true → 278 < q) (hqu : q + 10 < u) (h1 : cAt G' N w i') (h2 : i' ≤ N) : cXr S G' B n t N w u V K i' := by
  have hu := h.2.2.2.1.2.1
  have z : ∀ a j, a < 279 → ¬ (a = 72 ∧ j = 1) → G' a j = G a j := fun a j p p' => hx a j p' (fun y => by have := hq y.1; omega)
  have z' : ∀ a j, q + 10 < a → 278 < a → G' a j = G a j := fun a j p p' => hx a j (by omega) (fun y => by omega)
  exact h.b (fun a j p q r => z a j r (by omega)) (fun j p q r s => z' u j (by omega) hu) h1 h2 (h.2.2.2.2.1.ge (z' _ _ (by omega) (by omega)) (fun j => z _ _ (by omega) (by omega)) (fun j => z' _ _ (by omega) (by omega))) h.2.2.2.2.2.1 (h.2.2.2.2.2.2.ge (z _ _ (by omega) (by omega)) (fun j => z _ _ (by omega) (by omega)) (fun j => z _ _ (by omega) (by omega)))
theorem cMe.fn (h : cMe G M) (hx : xFn tell q G G') (hq : tell = true → 278 < q) : cMe G' M := by
  have z : ∀ a j, a < 279 → ¬ (a = 72 ∧ j = 1) → G' a j = G a j := fun a j p p' => hx a j p' (fun y => by have := hq y.1; omega)
  exact h.ge (z _ _ (by omega) (by omega)) (fun a k z1 z2 => z _ _ (by omega) (by omega))
theorem cWd.fn (h : cWd G q M) (hx : xFn tell q G G') (hq : 82 < q) : cWd G' q M := h.ge (fun j => hx _ _ (by omega) (fun y => by omega))
theorem cPr0.fn (h : cPr0 S G q tell L) (hx : xFn tell q G G') (hn : cNs G' q L') : cPr0 S G' q tell L' := by
  obtain ⟨a1, a2, a3, a4, a5, a6, a7⟩ := h
  have z : ∀ j, j ≠ 1 → G' 72 j = G 72 j := fun j p' => hx 72 j (by omega) (fun y => by have := a3 y.1; omega)
  exact ⟨by rw [z 3 (by decide)]; exact a1, a2, a3, by rw [z 4 (by decide)]; exact a4, a5, a6.ge (fun j p r s => hx q j (by omega) (fun y => by omega)), hn⟩
theorem cPr0.at {v : Int} (h : cPr0 S G q tell L) : cPr0 S (xup2 G 72 1 v) q tell L := by
  have hq := h.2.1
  exact h.ge (xup2_n (by omega)) (xup2_n (by omega)) (fun j _ _ _ => xup2_n (by omega)) (fun j => xup2_n (by omega))
theorem cWd.at {v : Int} (h : cWd G q M) (hq : 82 < q) : cWd (xup2 G 72 1 v) q M := h.ge (fun j => xup2_n (by omega))
theorem cPr0.ft (h : cPr0 S G q tell L) (hx : xFt u l G G') (hqu : q + 10 < u) : cPr0 S G' q tell L := by
  have hq := h.2.1
  exact h.ge (hx _ _ (by omega) (by omega) (by omega) (by omega) (by omega)) (hx _ _ (by omega) (by omega) (by omega) (by omega) (by omega)) (fun j _ _ _ => hx _ _ (by omega) (by omega) (by omega) (by omega) (by omega)) (fun j => hx _ _ (by omega) (by omega) (by omega) (by omega) (by omega))
theorem cWd.ft (h : cWd G q M) (hx : xFt u l G G') (hq : 82 < q) (hqu : q + 10 < u) : cWd G' q M := h.ge (fun j => hx _ _ (by omega) (by omega) (by omega) (by omega) (by omega))
theorem cMe.ft (h : cMe G M) (hx : xFt u l G G') (hu : 278 < u) : cMe G' M := h.ge (hx _ _ (by omega) (by omega) (by omega) (by omega) (by omega)) (fun a k z1 z2 => hx _ _ (by omega) (by omega) (by omega) (by omega) (by omega))
theorem xFn.u8 (hx : xFn tell q G G') (hqu : q + 10 < u) (hu : 278 < u) (a j : Nat) (h : u ≤ a) : G' a j = G a j := hx a j (by omega) (fun y => by omega)
theorem pPred_nat {r : Int × List Int × Nat} (h : pPred t L i = .inr r) (hL : L.length ≤ 16) : ∃ p' : Nat, r.1 = p' ∧ p' < 16 := by
  unfold pPred at h
  obtain ⟨x, _, h⟩ := pbind_inr h
  split at h
  · split at h
    · cases h
    · cases h
      exact ⟨L.length, rfl, by omega⟩
  · rename_i c
    cases h
    have : pIdx L x.1 = -1 ∨ 0 ≤ pIdx L x.1 ∧ pIdx L x.1 < L.length := by
      unfold pIdx
      cases e : L.findIdx? (fun y => decide (y = x.1)) with
      | none => exact .inl rfl
      | some p =>
        rw [List.findIdx?_eq_some_iff_getElem] at e
        obtain ⟨e1, _⟩ := e
        exact .inr ⟨Int.natCast_nonneg p, Int.ofNat_lt.mpr e1⟩
    exact ⟨(pIdx L x.1).toNat, by show pIdx L x.1 = _; omega, by omega⟩
/-- the NAME and the bracket ahead of the TERMS -/
theorem k_46_h {kd : Int} (hf : 20 < f) (h : cXr S G B n t N w u V K i) (hr : cPr0 S G q tell L) (hqu : q + 10 < u) (hl8 : G u 8 = (l : Int)) :
    pok (pbind (if tell = true then pPred t L i else pbind (pName t i) fun r => .inr (pIdx L r.1, L, r.2)) fun p => pbind (pNeed t 40 p.2.2) fun j => .inr (p.1, p.2.1, j)) (fun x => ∃ G', c46 f 72 kd (S, G, m) = some (.inl 0, cWr S G' m (x : Int)) ∧ xFn tell q G G')
      (fun p => ∃ G', c46 f 72 kd (S, G, m) = c46_41 f f 72 kd (kS t i : Int) p.1 (l : Int) 0 (S, G', m) ∧ xFn tell q G G' ∧ p.2.2 = i + 2 ∧ cXr S G' B n t N w u V K p.2.2 ∧ cPr0 S G' q tell p.2.1 ∧ (tell = true → ∃ p' : Nat, p.1 = p' ∧ p' < 16)) := by
  have hs := h.1.1
  have hp := h.1.2.1
  obtain ⟨k1, k2, k3, k4⟩ := h.1.tk h.2.1
  obtain ⟨u1, u2, ⟨us, _⟩, _⟩ := h.2.2.2.1
  have pp := k_pred (m := m) hf h.1 h.2.1 hr
  cases hX : (if tell = true then pPred t L i else pbind (pName t i) fun r => .inr (pIdx L r.1, L, r.2)) with
  | inl x =>
    rw [hX] at pp
    rcases pp with p1 | ⟨v, G1, p1, p2, p3⟩
    · refine ⟨G, ?_, fun _ _ _ _ => rfl⟩
      unfold c46
      simp (disch := omega) only [cq_gi, cq_gr, cq_a, cq_s, cq_p, cq_pr, cq_is, cq_ar, cq_ab, cq_ln, xq_nz, Option.bind_some, xup2_n, xup2_s, Int.toNat_natCast, Int.reduceToNat, if_pos, if_neg, true_and, and_true, and_self, eq_self, if_true, reduceIte, not_true_eq_false, not_false_eq_true, or_true, true_or, s72 hs, s65 hs, s68 hs, p72_0 hp, p65_4 hp, k2, k3, p1, cth]
    · refine ⟨G1, ?_, fun a j y _ => p3 a j y (fun z => nomatch z.1)⟩
      unfold c46
      simp (disch := omega) only [cq_gi, cq_gr, cq_a, cq_s, cq_p, cq_pr, cq_is, cq_ar, cq_ab, cq_ln, xq_nz, Option.bind_some, xup2_n, xup2_s, Int.toNat_natCast, Int.reduceToNat, if_pos, if_neg, true_and, and_true, and_self, eq_self, if_true, reduceIte, not_true_eq_false, not_false_eq_true, or_true, true_or, s72 hs, s65 hs, s68 hs, p72_0 hp, p65_4 hp, k2, k3, p1, p2, cth]
  | inr p =>
    rw [hX] at pp
    obtain ⟨v, G1, G2, p1, p2, p3, p4, p5, p6, p7⟩ := pp
    have h2 := h.fn p3 hr.2.2.1 hqu p6 p5
    have hr2 := hr.fn p3 p7
    have p38 := k_38 (f := f) (m := m) (c := 40) (by decide) h2.1 h2.2.1
    show pok (pbind (pNeed t 40 p.2.2) fun j => .inr (p.1, p.2.1, j)) _ _
    rw [p4]
    cases hn : pNeed t 40 (i + 1) with
    | inl x =>
      rw [hn] at p38
      have p38' : c38 f 72 40 (S, G2, m) = _ := p38
      refine ⟨G2, ?_, p3⟩
      unfold c46
      simp (disch := omega) only [cq_gi, cq_gr, cq_a, cq_s, cq_p, cq_pr, cq_is, cq_ar, cq_ab, cq_ln, xq_nz, Option.bind_some, xup2_n, xup2_s, Int.toNat_natCast, Int.reduceToNat, if_pos, if_neg, true_and, and_true, and_self, eq_self, if_true, reduceIte, not_true_eq_false, not_false_eq_true, or_true, true_or, s72 hs, s65 hs, s68 hs, p72_0 hp, p65_4 hp, k2, k3, p1, p2, p38', cth]
    | inr j =>
      rw [hn] at p38
      obtain ⟨a1, a2, a3, a4⟩ := p38
      have hlt := (h2.1.lt h2.2.1 (by omega)).1
      obtain ⟨b1, b2⟩ := h2.at a4 (by omega)
      have e8 : G2 u 8 = (l : Int) := by rw [p3.u8 hqu u2 u 8 (by omega)]; exact hl8
      have e5 : G2 72 5 = (u : Int) := h2.2.2.2.1.1
      refine ⟨_, ?_, fun a k y y' => by rw [xup2_n (by omega)]; exact p3 a k y y', by show j = i + 2; omega, b2, hr2.at, fun tt => ?_⟩
      · unfold c46
        simp (disch := omega) only [cq_gi, cq_gr, cq_a, cq_s, cq_p, cq_pr, cq_is, cq_ar, cq_ab, cq_ln, xq_nz, Option.bind_some, xup2_n, xup2_s, Int.toNat_natCast, Int.reduceToNat, if_pos, if_neg, true_and, and_true, and_self, eq_self, if_true, reduceIte, not_true_eq_false, not_false_eq_true, or_true, true_or, s72 hs, s65 hs, s68 hs, us, p72_0 hp, p65_4 hp, k2, k3, p1, p2, a1, cth, e5, e8]
      · rw [if_pos tt] at hX
        show ∃ p' : Nat, p.1 = p' ∧ p' < 16
        exact pPred_nat hX hr.2.2.2.2.2.2.2.1
theorem cLt.new {x : pLt} (k : Int) (hk : k = 1 ∨ k = 2) (h1 : x.1 = k) (h2 : G (u + 2) l = (if k = 1 then 15 else 9)) (h3 : G (u + 3) l = x.2.1) (h4 : G (u + 4) l = (x.2.2.2.1.length : Int)) (h5 : x.2.2.2.1.length ≤ 4) (h6 : cTs G u l x.2.2.2.1) : cLt G u K l x := .inl ⟨by omega, by rw [h1]; exact h2, h3, h4, h5, h6⟩
/-- one LITERAL more -/
theorem cLs.add {Ls : List pLt} {x : pLt} (h : cLs G u K Ls) (hl : Ls.length < 8) (h8 : G' u 8 = ((Ls.length + 1 : Nat) : Int)) (hx : cLt G' u (K ++ K') Ls.length x) (h0 : ∀ a l, l < Ls.length → u + 2 ≤ a → a ≤ u + 4 → G' a l = G a l) (h5 : ∀ j, j < 4 * Ls.length → G' (u + 5) j = G (u + 5) j ∧ G' (u + 6) j = G (u + 6) j) (h7 : ∀ j, j < 4 + 2 * Ls.length → 4 ≤ j → G' (u + 7) j = G (u + 7) j ∧ G' (u + 8) j = G (u + 8) j) : cLs G' u (K ++ K') (Ls ++ [x]) := by
  refine ⟨by rw [h8, len1], by rw [len1]; omega, fun l hl' => ?_⟩
  rw [len1] at hl'
  rw [getD_1]
  by_cases c : l = Ls.length
  · rw [if_pos c, c]; exact hx
  · rw [if_neg c]
    exact (h.2.2 l (by omega)).ge (fun a z1 z2 => h0 a l (by omega) z1 z2) (fun j hj => h5 j (by omega)) (fun j hj z => h7 j (by omega) z)
/-- readAtom() -/
theorem k_46 {k : Int} {s : pRs} {i0 : Nat} (hf : 20 < f) (hok : tOk t) (hvi : vIn t B n) (hk : k = 1 ∨ k = 2) (h : cRL S G B n t N w q u tell s K i0) (hl : s.2.2.1.length < 8) :
    pok (pAtom t tell k s) (fun x => ∃ G', c46 f 72 (if k = 1 then 15 else 9) (S, G, m) = some (.inl 0, cWr S G' m (x : Int)) ∧ xF2 tell q u G G')
      (fun s' => ∃ G', c46 f 72 (if k = 1 then 15 else 9) (S, G, m) = some (.inr (), (S, G', m)) ∧ xF2 tell q u G G' ∧ cRL S G' B n t N w q u tell s' K i0) := by
  obtain ⟨h1, h2, h3, h4, h5, h6, h7, h8⟩ := h
  have hu := h1.2.2.2.1.2.1
  have hd := k_46_h (m := m) (kd := if k = 1 then 15 else 9) hf h1 h2 h3 h6.1
  have e0 : pAtom t tell k s = pbind (pbind (if tell = true then pPred t s.1 s.2.2.2.2 else pbind (pName t s.2.2.2.2) fun r => .inr (pIdx s.1 r.1, s.1, r.2)) fun p => pbind (pNeed t 40 p.2.2) fun j => .inr (p.1, p.2.1, j)) (fun p => pbind (pbind (pTerm t s.2.1 p.2.2) fun r => pTerms t 3 ([] ++ [r.1]) r.2.1 r.2.2) fun q => pbind (pNeed t 41 q.2.2) fun i => .inr (p.2.1, q.2.1, s.2.2.1 ++ [(k, p.1, kS t s.2.2.2.2, q.1, [], [])], s.2.2.2.1 ++ [(p.1, kS t s.2.2.2.2, (q.1.length : Int), 4)], i)) := by
    unfold pAtom
    rw [pbind_as]
    congr 1
    funext p
    rw [pbind_as]
    congr 1
    funext j
    rw [pbind_r, pbind_as]
    rfl
  rw [e0]
  cases hX : (pbind (if tell = true then pPred t s.1 s.2.2.2.2 else pbind (pName t s.2.2.2.2) fun r => .inr (pIdx s.1 r.1, s.1, r.2)) fun p => pbind (pNeed t 40 p.2.2) fun j => .inr (p.1, p.2.1, j)) with
  | inl x =>
    rw [hX] at hd
    obtain ⟨G1, a1, a2⟩ := hd
    exact ⟨G1, a1, a2.f2⟩
  | inr p =>
    rw [hX] at hd
    obtain ⟨G1, a1, a2, a3, a4, a5, a6⟩ := hd
    have hT := k_terms (f := f) (m := m) (kd := if k = 1 then 15 else 9) (sp := (kS t s.2.2.2.2 : Int)) (p := p.1) (l := s.2.2.1.length) hf hok hvi hl 3 [] s.2.1 p.2.2 G1 f rfl (by omega) a4 (fun c hc => absurd hc (Nat.not_lt_zero c))
    show pok (pbind (pbind (pTerm t s.2.1 p.2.2) fun r => pTerms t 3 ([] ++ [r.1]) r.2.1 r.2.2) fun q => pbind (pNeed t 41 q.2.2) fun i => .inr (p.2.1, q.2.1, s.2.2.1 ++ [(k, p.1, kS t s.2.2.2.2, q.1, [], [])], s.2.2.2.1 ++ [(p.1, kS t s.2.2.2.2, (q.1.length : Int), 4)], i)) _ _
    cases hY : (pbind (pTerm t s.2.1 p.2.2) fun r => pTerms t 3 ([] ++ [r.1]) r.2.1 r.2.2) with
    | inl x =>
      rw [hY] at hT
      obtain ⟨G2, b1, b2⟩ := hT
      exact ⟨G2, by rw [a1]; exact b1, a2.f2.tr b2.f2⟩
    | inr r =>
      rw [hY] at hT
      obtain ⟨G2, b1, b2, b3, b4, b5, b6, b7⟩ := hT
      have hM2 := (h4.fn a2 h2.2.2.1).ft b2 hu
      have hr2 := a5.ft b2 h3
      have ht2 : tell = true → cWd G2 q s.2.2.2.1 ∧ mPos s.2.2.2.1 ∧ ∃ p' : Nat, p.1 = p' ∧ p' < 16 := fun z => ⟨((h5 z).1.fn a2 h2.2.1).ft b2 h2.2.1 h3, (h5 z).2, a6 z⟩
      have e8 : G2 u 8 = (s.2.2.1.length : Int) := by rw [b2 u 8 (by omega) (by omega) (by omega) (by omega) (by omega), a2.u8 h3 hu u 8 (by omega)]; exact h6.1
      have hN := b3.1.2.2.2.1.2
      have hrN := b3.2.2.1
      have hfin := k_46_149a (f := f) (m := m) (kd := if k = 1 then 15 else 9) (c := r.1.length) (sp := (kS t s.2.2.2.2 : Int)) ht2 b3 hr2 h3 hM2 e8 hl b6 (by omega) rfl
      show pok (pbind (pNeed t 41 r.2.2) fun i => .inr (p.2.1, r.2.1, s.2.2.1 ++ [(k, p.1, kS t s.2.2.2.2, r.1, [], [])], s.2.2.2.1 ++ [(p.1, kS t s.2.2.2.2, (r.1.length : Int), 4)], i)) _ _
      cases hn : pNeed t 41 r.2.2 with
      | inl x =>
        rw [hn] at hfin
        exact ⟨G2, by rw [a1]; exact b1.trans hfin, a2.f2.tr b2.f2⟩
      | inr j =>
        rw [hn] at hfin
        obtain ⟨G3, c1, c2, c3, c4, c5, c6, c7, c8⟩ := hfin
        refine ⟨G3, by rw [a1]; exact b1.trans c1, (a2.f2.tr b2.f2).tr c8.f2, c3, c4, h3, c5, fun z => ⟨c6 z, mPos_1 (h5 z).2 (.inr (by show (1 : Int) ≤ (r.1.length : Int); omega))⟩, ?_, ?_, ?_⟩
        · have zz : ∀ a j, u + 2 ≤ a → ¬ (a ≤ u + 4 ∧ j = s.2.2.1.length) → ¬ ((a = u + 5 ∨ a = u + 6) ∧ 4 * s.2.2.1.length ≤ j) → G3 a j = G a j := fun a j z1 z2 z3 => by
            rw [c8 a j (by omega) (by omega) (fun y => by omega) (by omega) (by omega), b2 a j (by omega) (by omega) (by omega) (by omega) z3, a2.u8 h3 hu a j (by omega)]
          have hts : cTs G3 u s.2.2.1.length r.1 := b5.ge (fun j hj => ⟨c8 _ _ (by omega) (by omega) (fun y => by omega) (by omega) (by omega), c8 _ _ (by omega) (by omega) (fun y => by omega) (by omega) (by omega)⟩) b7
          have := cLs.add (K' := []) (x := (k, p.1, kS t s.2.2.2.2, r.1, [], [])) h6 hl c7.2.2.2 (cLt.new k hk rfl c7.1 c7.2.1 c7.2.2.1 b7 hts) (fun a l z1 z2 z3 => zz a l (by omega) (by omega) (by omega)) (fun j hj => ⟨zz _ j (by omega) (by omega) (by omega), zz _ j (by omega) (by omega) (by omega)⟩) (fun j hj z => ⟨zz _ j (by omega) (by omega) (by omega), zz _ j (by omega) (by omega) (by omega)⟩)
          rw [List.append_nil] at this
          exact this
        · show 3 * (s.2.2.2.1 ++ [_]).length ≤ j
          rw [len1]; omega
        · show K.length + i0 ≤ j
          omega
end
end
section
/-! THE CLASS reads LITERALS -/
section
variable {f n N w i i' u q l F : Nat} {S : Nat → Nat × Nat × Nat} {G G' G'' : xG_} {m : Nat × Nat} {B : Nat → Int} {t : tStr} {V V' : List (Int × Nat)} {K K' : pCd} {L L' : List Int} {tell : Bool} {M : List pMn} {s : pRs}
/-- countAtoms() -/
theorem pAtoms_d (Ls : List pLt) (k : Nat) (hk : k < Ls.length) : pAtoms (Ls.drop k) = pAtoms (Ls.drop (k + 1)) + if (Ls.getD k (0, 0, 0, [], [], [])).1 = 1 then 1 else 0 := by
  rw [List.drop_eq_getElem_cons hk, getD_e hk]
  unfold pAtoms
  by_cases c : (Ls[k]).1 = 1
  · rw [if_pos c, List.filter_cons_of_pos (by simp [c])]; rfl
  · rw [if_neg c, List.filter_cons_of_neg (by simp [c])]; rfl
theorem k_89_4 {Ls : List pLt} (hr : cRu0 S G u) (h : cLs G u K Ls) : ∀ (d k a fu : Nat), k + d = Ls.length → d < fu → a ≤ k → c89_4 f fu u (a : Int) (k : Int) (S, G, m) = some (((a + pAtoms (Ls.drop k) : Nat) : Int), (S, G, m)) := by
  obtain ⟨u1, u2, ⟨us, us1, us2, _⟩, w7, w9, _⟩ := hr
  have h8 := h.1
  have hl8 := h.2.1
  intro d
  induction d with
  | zero =>
    intro k a fu h1 h2 h3
    obtain ⟨fu, rfl⟩ : ∃ t, fu = t + 1 := ⟨fu - 1, by omega⟩
    rw [List.drop_of_length_le (by omega)]
    show c89_4b (c89_4 f fu) f u _ _ _ = _
    unfold c89_4b
    simp (disch := omega) only [cq_gi, cq_gr, cq_a, cq_s, cq_p, cq_pr, cq_is, cq_ar, cq_ab, cq_ln, xq_nz, Option.bind_some, xup2_n, xup2_s, Int.toNat_natCast, Int.reduceToNat, if_pos, if_neg, true_and, and_true, and_self, eq_self, if_true, reduceIte, not_true_eq_false, not_false_eq_true, or_true, true_or, us, h8]
    rfl
  | succ d ih =>
    intro k a fu h1 h2 h3
    obtain ⟨fu, rfl⟩ : ∃ t, fu = t + 1 := ⟨fu - 1, by omega⟩
    have ek : xwr ((k : Int) + 1) = ((k + 1 : Nat) : Int) := by rw [xwr_g _ (by omega) (by omega)]; omega
    have ea : xwr ((a : Int) + 1) = ((a + 1 : Nat) : Int) := by rw [xwr_g _ (by omega) (by omega)]; omega
    have ea0 : xwr ((a : Int) + 0) = (a : Int) := by rw [xwr_g _ (by omega) (by omega)]; omega
    have hv : G (u + 2) k = 15 ↔ (Ls.getD k (0, 0, 0, [], [], [])).1 = 1 := by
      rcases h.2.2 k (by omega) with ⟨a1, a2, _⟩ | ⟨a1, a2, a3, _⟩
      · rw [a2]
        by_cases c : (Ls.getD k (0, 0, 0, [], [], [])).1 = 1
        · rw [if_pos c]; exact ⟨fun _ => c, fun _ => rfl⟩
        · rw [if_neg c]; exact ⟨fun y => absurd y (by decide), fun y => absurd y c⟩
      · rw [a2]
        exact ⟨fun y => by omega, fun y => by omega⟩
    have e1 : c89_4 f (fu + 1) u (a : Int) (k : Int) (S, G, m) = if ¬ G (u + 2) k = 15 then c89_4 f fu u (a : Int) ((k + 1 : Nat) : Int) (S, G, m) else c89_4 f fu u ((a + 1 : Nat) : Int) ((k + 1 : Nat) : Int) (S, G, m) := by
      show c89_4b (c89_4 f fu) f u _ _ _ = _
      unfold c89_4b c89_29
      clear hv
      simp (disch := omega) only [cq_gi, cq_gr, cq_a, cq_s, cq_p, cq_pr, cq_is, cq_ar, cq_ab, cq_ln, xq_nz, Option.bind_some, xup2_n, xup2_s, Int.toNat_natCast, Int.reduceToNat, if_pos, if_neg, true_and, and_true, and_self, eq_self, if_true, reduceIte, not_true_eq_false, not_false_eq_true, or_true, true_or, us, us2, w9, h8, ek, ea, ea0]
    rw [e1, pAtoms_d Ls k (by omega)]
    by_cases c : G (u + 2) k = 15
    · rw [if_neg (fun q => q c), if_pos (hv.mp c), ih (k + 1) (a + 1) fu (by omega) (by omega) (by omega)]
      have : a + 1 + pAtoms (Ls.drop (k + 1)) = a + (pAtoms (Ls.drop (k + 1)) + 1) := by omega
      rw [this]
    · rw [if_pos c, if_neg (fun y => c (hv.mpr y)), ih (k + 1) a fu (by omega) (by omega) (by omega)]
      rfl
theorem k_89 {Ls : List pLt} (hf : 20 < f) (hr : cRu0 S G u) (h : cLs G u K Ls) : c89 f u (S, G, m) = some ((pAtoms Ls : Int), (S, G, m)) := by
  have hl := h.2.1
  have := k_89_4 (f := f) (m := m) hr h Ls.length 0 0 f (by omega) (by omega) (Nat.le_refl _)
  rw [List.drop_zero, Nat.zero_add] at this
  exact this
/-- an EXPRESSION with its from and to -/
def xFs (u sl : Nat) (G G' : xG_) : Prop := ∀ a j, ¬ (a = 72 ∧ (j = 1 ∨ j = 2 ∨ j = 9 ∨ j = 12)) → ¬ (73 ≤ a ∧ a ≤ 77) → ¬ (a = u ∧ j = 6) → a ≠ u + 1 → ¬ ((a = u + 7 ∨ a = u + 8) ∧ j = sl) → G' a j = G a j
theorem xFs.f2 {sl : Nat} (h : xFs u sl G G') (h4 : 4 ≤ sl) : xF2 tell q u G G' := fun a j p1 p2 p3 p4 p5 p6 => h a j (by omega) (by omega) (by omega) (by omega) (by omega)
theorem k_seg {sl i0 : Nat} (hf : 3010 < f) (hok : tOk t) (hvi : vIn t B n) (hF : 4 * N + 2 ≤ F) (h : cXr S G B n t N w u V K i) (hK : K.length + i0 ≤ i) :
    pok (pX t F 1 0 (V, [], i)) (fun x => ∃ G', c53 f 72 0 (S, xup2 G (u + 7) sl (K.length : Int), m) = some (.inl 0, cWr S G' m (x : Int)) ∧ xFs u sl G G')
      (fun e => ∃ G1, c53 f 72 0 (S, xup2 G (u + 7) sl (K.length : Int), m) = some (.inr (), (S, G1, m)) ∧ G1 72 9 = ((K ++ e.2.1.map cOp).length : Int) ∧ G1 72 5 = (u : Int) ∧ cRuP G1 u ∧ xFs u sl G G1 ∧ i < e.2.2 ∧ (K ++ e.2.1.map cOp).length + i0 ≤ e.2.2 ∧
        xFs u sl G (xup2 G1 (u + 8) sl ((K ++ e.2.1.map cOp).length : Int)) ∧ cXr S (xup2 G1 (u + 8) sl ((K ++ e.2.1.map cOp).length : Int)) B n t N w u e.1 (K ++ e.2.1.map cOp) e.2.2 ∧ cSg (xup2 G1 (u + 8) sl ((K ++ e.2.1.map cOp).length : Int)) u (K ++ e.2.1.map cOp) sl e.2.1) := by
  have hu := h.2.2.2.1.2.1
  have h' : cXr S (xup2 G (u + 7) sl (K.length : Int)) B n t N w u V K i := h.st1 (by omega) (by omega) (by omega)
  have p := k_53 (f := f) (m := m) (F := F) hf hok hvi h' (by omega) (by omega)
  cases hp : pX t F 1 0 (V, [], i) with
  | inl x =>
    rw [hp] at p
    obtain ⟨G1, a1, a2⟩ := p
    exact ⟨G1, a1, fun a j z1 z2 z3 z4 z5 => by rw [a2 a j z1 z2 z3 z4, xup2_n (by omega)]⟩
  | inr e =>
    rw [hp] at p
    obtain ⟨G1, a1, a2, a3⟩ := p
    obtain ⟨_, q2, _, q4, _, _⟩ := pX_le F 1 0 _ e (by decide) hp
    have q2' : i < e.2.2 := q2 (by decide)
    have q4' : e.2.1.length + i ≤ 0 + e.2.2 := q4
    have hlen : (K ++ e.2.1.map cOp).length = K.length + e.2.1.length := by rw [List.length_append, List.length_map]
    refine ⟨G1, a1, a3.2.2.2.2.2.2.1, a3.2.2.2.1.1, a3.2.2.2.1.2.2.2, fun a j z1 z2 z3 z4 z5 => by rw [a2 a j z1 z2 z3 z4, xup2_n (by omega)], q2', by omega, fun a j z1 z2 z3 z4 z5 => by rw [xup2_n (by omega), a2 a j z1 z2 z3 z4, xup2_n (by omega)], a3.st1 (by omega) (by omega) (by omega), K, [], by rw [List.append_nil], ?_, ?_⟩
    · rw [xup2_n (by omega), a2 (u + 7) sl (by omega) (by omega) (by omega) (by omega), xup2_s]
    · rw [xup2_s, hlen]
theorem cSg.fs {s' : Nat} {E D : pCd} {sl : Nat} (h : cSg G u K s' E) (hu : 278 < u) (hx : xFs u sl G G') (hne : s' ≠ sl) : cSg G' u (K ++ D) s' E := h.ge (hx _ _ (by omega) (by omega) (by omega) (by omega) (by omega)) (hx _ _ (by omega) (by omega) (by omega) (by omega) (by omega))
theorem cPr0.fs {sl : Nat} (h : cPr0 S G q tell L) (hx : xFs u sl G G') (hqu : q + 10 < u) : cPr0 S G' q tell L := by
  have hq := h.2.1
  exact h.ge (hx _ _ (by omega) (by omega) (by omega) (by omega) (by omega)) (hx _ _ (by omega) (by omega) (by omega) (by omega) (by omega)) (fun j _ _ _ => hx _ _ (by omega) (by omega) (by omega) (by omega) (by omega)) (fun j => hx _ _ (by omega) (by omega) (by omega) (by omega) (by omega))
theorem cWd.fs {sl : Nat} (h : cWd G q M) (hx : xFs u sl G G') (hq : 82 < q) (hqu : q + 10 < u) : cWd G' q M := h.ge (fun j => hx _ _ (by omega) (by omega) (by omega) (by omega) (by omega))
theorem cMe.fs {sl : Nat} (h : cMe G M) (hx : xFs u sl G G') (hu : 278 < u) : cMe G' M := h.ge (hx _ _ (by omega) (by omega) (by omega) (by omega) (by omega)) (fun a k z1 z2 => hx _ _ (by omega) (by omega) (by omega) (by omega) (by omega))
theorem cLs.fs {sl : Nat} {Ls : List pLt} (h : cLs G u K Ls) (hx : xFs u sl G G') (hu : 278 < u) (hsl : 4 + 2 * Ls.length ≤ sl ∨ sl < 4) : cLs G' u (K ++ K') Ls := by
  refine ⟨by rw [hx _ _ (by omega) (by omega) (by omega) (by omega) (by omega)]; exact h.1, h.2.1, fun l hl => (h.2.2 l hl).ge (fun a z1 z2 => hx _ _ (by omega) (by omega) (by omega) (by omega) (by omega)) (fun j hj => ⟨hx _ _ (by omega) (by omega) (by omega) (by omega) (by omega), hx _ _ (by omega) (by omega) (by omega) (by omega) (by omega)⟩) (fun j hj z => ⟨hx _ _ (by omega) (by omega) (by omega) (by omega) (by omega), hx _ _ (by omega) (by omega) (by omega) (by omega) (by omega)⟩)⟩
end
end
section
/-! THE CLASS reads comparisons -/
def c45_177t (f : Nat) (x0 : Nat) (v169 : Int) (R182 : ((Nat ⊕ Unit) × xT_)) : Option ((Nat ⊕ Unit) × xT_) := cth R182 (fun _ => ((cq_gr 4 5 20 (x0) R182.2).bind fun v190 => ((cq_gr 6 15 20 (v190) R182.2).bind fun v192 => ((cq_gi 4 9 20 (x0) R182.2).bind fun v194 => ((cq_s 3 (v192) (xwr ((4) + (xwr ((2) * (v169))))) (v194) R182.2).bind fun T197 => ((cq_gr 4 0 20 (x0) T197).bind fun v201 => ((cq_gr 8 3 8 (v201) T197).bind fun v203 => ((cq_gi 4 1 20 (x0) T197).bind fun v205 => ((cq_a 3 (v203) (v205) T197).bind fun v207 => (if (v207) = (61) then c45_288  f (x0) (xwr ((4) + (xwr ((2) * (v169))))) (v207) T197 else (if (v207) = (60) then c45_288  f (x0) (xwr ((4) + (xwr ((2) * (v169))))) (v207) T197 else (if (v207) = (62) then c45_288  f (x0) (xwr ((4) + (xwr ((2) * (v169))))) (v207) T197 else (if (v207) = (257) then c45_288  f (x0) (xwr ((4) + (xwr ((2) * (v169))))) (v207) T197 else (if (v207) = (258) then c45_288  f (x0) (xwr ((4) + (xwr ((2) * (v169))))) (v207) T197 else (if (v207) = (259) then c45_288  f (x0) (xwr ((4) + (xwr ((2) * (v169))))) (v207) T197 else ((cq_gr 4 0 20 (x0) T197).bind fun v215 => ((cq_gr 8 4 8 (v215) T197).bind fun v217 => ((cq_gi 4 1 20 (x0) T197).bind fun v219 => ((cq_a 3 (v217) (v219) T197).bind fun v221 => ((cq_is 4 20 (x0) T197).bind fun _ => ((c36 f (x0) (v221) T197).bind fun R223 => cth R223 (fun _ => c45_288  f (x0) (xwr ((4) + (xwr ((2) * (v169))))) (v207) R223.2))))))))))))))))))))))
theorem c45_177t_e (f : Nat) (x0 : Nat) (T : xT_) : c45_177 f x0 T = ((cq_gr 4 5 20 (x0) T).bind fun v167 => ((cq_gi 6 8 20 (v167) T).bind fun v169 => ((cq_gr 4 5 20 (x0) T).bind fun v171 => ((cq_gr 6 14 20 (v171) T).bind fun v173 => ((cq_gi 4 9 20 (x0) T).bind fun v175 => ((cq_s 3 (v173) (xwr ((4) + (xwr ((2) * (v169))))) (v175) T).bind fun T178 => ((cq_is 4 20 (x0) T178).bind fun _ => ((c53 f (x0) (0) T178).bind fun R182 => c45_177t f x0 v169 R182)))))))) := rfl
def c45_288t (f : Nat) (x0 : Nat) (x2 : Int) (x3 : Int) (R126 : ((Nat ⊕ Unit) × xT_)) : Option ((Nat ⊕ Unit) × xT_) := cth R126 (fun _ => ((cq_gr 4 5 20 (x0) R126.2).bind fun v134 => ((cq_gr 6 15 20 (v134) R126.2).bind fun v136 => ((cq_gi 4 9 20 (x0) R126.2).bind fun v138 => ((cq_s 3 (v136) (xwr ((x2) + (1))) (v138) R126.2).bind fun T141 => ((cq_gr 4 5 20 (x0) T141).bind fun v145 => ((cq_gr 6 9 20 (v145) T141).bind fun v147 => ((cq_gr 4 5 20 (x0) T141).bind fun v149 => ((cq_gi 6 8 20 (v149) T141).bind fun v151 => ((cq_s 3 (v147) (v151) (x3) T141).bind fun T154 => ((cq_gr 4 5 20 (x0) T154).bind fun v158 => ((cq_gi 6 8 20 (v158) T154).bind fun v160 => ((cq_p 6 8 20 (v158) (xwr ((v160) + (1))) T154).bind fun T163 => (some (.inr (), T163)))))))))))))))
theorem c45_288t_e (f : Nat) (x0 : Nat) (x2 : Int) (x3 : Int) (T : xT_) : c45_288 f x0 x2 x3 T = ((cq_is 4 20 (x0) T).bind fun _ => ((c37 f (x0) T).bind fun R109 => ((cq_gr 4 5 20 (x0) R109).bind fun v115 => ((cq_gr 6 14 20 (v115) R109).bind fun v117 => ((cq_gi 4 9 20 (x0) R109).bind fun v119 => ((cq_s 3 (v117) (xwr ((x2) + (1))) (v119) R109).bind fun T122 => ((cq_is 4 20 (x0) T122).bind fun _ => ((c53 f (x0) (0) T122).bind fun R126 => c45_288t f x0 x2 x3 R126)))))))) := rfl
def c45_177u (f : Nat) (x0 : Nat) (v169 : Int) (T197 : xT_) (v207 : Int) : Option ((Nat ⊕ Unit) × xT_) := (if (v207) = (61) then c45_288  f (x0) (xwr ((4) + (xwr ((2) * (v169))))) (v207) T197 else (if (v207) = (60) then c45_288  f (x0) (xwr ((4) + (xwr ((2) * (v169))))) (v207) T197 else (if (v207) = (62) then c45_288  f (x0) (xwr ((4) + (xwr ((2) * (v169))))) (v207) T197 else (if (v207) = (257) then c45_288  f (x0) (xwr ((4) + (xwr ((2) * (v169))))) (v207) T197 else (if (v207) = (258) then c45_288  f (x0) (xwr ((4) + (xwr ((2) * (v169))))) (v207) T197 else (if (v207) = (259) then c45_288  f (x0) (xwr ((4) + (xwr ((2) * (v169))))) (v207) T197 else ((cq_gr 4 0 20 (x0) T197).bind fun v215 => ((cq_gr 8 4 8 (v215) T197).bind fun v217 => ((cq_gi 4 1 20 (x0) T197).bind fun v219 => ((cq_a 3 (v217) (v219) T197).bind fun v221 => ((cq_is 4 20 (x0) T197).bind fun _ => ((c36 f (x0) (v221) T197).bind fun R223 => cth R223 (fun _ => c45_288  f (x0) (xwr ((4) + (xwr ((2) * (v169))))) (v207) R223.2)))))))))))))
theorem c45_177u_e (f : Nat) (x0 : Nat) (v169 : Int) (R182 : ((Nat ⊕ Unit) × xT_)) : c45_177t f x0 v169 R182 = cth R182 (fun _ => ((cq_gr 4 5 20 (x0) R182.2).bind fun v190 => ((cq_gr 6 15 20 (v190) R182.2).bind fun v192 => ((cq_gi 4 9 20 (x0) R182.2).bind fun v194 => ((cq_s 3 (v192) (xwr ((4) + (xwr ((2) * (v169))))) (v194) R182.2).bind fun T197 => ((cq_gr 4 0 20 (x0) T197).bind fun v201 => ((cq_gr 8 3 8 (v201) T197).bind fun v203 => ((cq_gi 4 1 20 (x0) T197).bind fun v205 => ((cq_a 3 (v203) (v205) T197).bind fun v207 => c45_177u f x0 v169 T197 v207))))))))) := rfl
def c45_177w (f : Nat) (x0 : Nat) (v169 : Int) (v207 : Int) (R223 : ((Nat ⊕ Unit) × xT_)) : Option ((Nat ⊕ Unit) × xT_) := cth R223 (fun _ => c45_288  f (x0) (xwr ((4) + (xwr ((2) * (v169))))) (v207) R223.2)
theorem c45_177w_e (f : Nat) (x0 : Nat) (v169 : Int) (T197 : xT_) (v207 : Int) : c45_177u f x0 v169 T197 v207 = (if (v207) = (61) then c45_288  f (x0) (xwr ((4) + (xwr ((2) * (v169))))) (v207) T197 else (if (v207) = (60) then c45_288  f (x0) (xwr ((4) + (xwr ((2) * (v169))))) (v207) T197 else (if (v207) = (62) then c45_288  f (x0) (xwr ((4) + (xwr ((2) * (v169))))) (v207) T197 else (if (v207) = (257) then c45_288  f (x0) (xwr ((4) + (xwr ((2) * (v169))))) (v207) T197 else (if (v207) = (258) then c45_288  f (x0) (xwr ((4) + (xwr ((2) * (v169))))) (v207) T197 else (if (v207) = (259) then c45_288  f (x0) (xwr ((4) + (xwr ((2) * (v169))))) (v207) T197 else ((cq_gr 4 0 20 (x0) T197).bind fun v215 => ((cq_gr 8 4 8 (v215) T197).bind fun v217 => ((cq_gi 4 1 20 (x0) T197).bind fun v219 => ((cq_a 3 (v217) (v219) T197).bind fun v221 => ((cq_is 4 20 (x0) T197).bind fun _ => ((c36 f (x0) (v221) T197).bind fun R223 => c45_177w f x0 v169 v207 R223)))))))))))) := rfl
section
variable {f n N w i i' u q l F : Nat} {S : Nat → Nat × Nat × Nat} {G G' G'' : xG_} {m : Nat × Nat} {B : Nat → Int} {t : tStr} {V V' : List (Int × Nat)} {K K' : pCd} {L L' : List Int} {tell : Bool} {M : List pMn} {s : pRs}
def xFc (u sl l : Nat) (G G' : xG_) : Prop := ∀ a j, ¬ (a = 72 ∧ (j = 1 ∨ j = 2 ∨ j = 9 ∨ j = 12)) → ¬ (73 ≤ a ∧ a ≤ 77) → ¬ (a = u ∧ (j = 6 ∨ j = 8)) → a ≠ u + 1 → ¬ (a = u + 2 ∧ j = l) → ¬ ((a = u + 7 ∨ a = u + 8) ∧ j = sl) → G' a j = G a j
theorem xFs.c {sl : Nat} (h : xFs u sl G G') : xFc u sl l G G' := fun a j p1 p2 p3 p4 p5 p6 => h a j p1 p2 (by omega) p4 p6
theorem xFs.ca {sl : Nat} {v : Int} (h : xFs u sl (xup2 G 72 1 v) G') : xFc u sl l G G' := fun a j z1 z2 z3 z4 z5 z6 => by
  rw [h a j z1 z2 (fun y => z3 ⟨y.1, .inl y.2⟩) z4 z6, xup2_n (fun y => z1 ⟨y.1, .inl y.2⟩)]
theorem xFs.cb {sl : Nat} {v sg v' : Int} (h : xFs u sl (xup2 G 72 1 v) G') : xFc u sl l G (xup2 (xup2 G' (u + 2) l sg) u 8 v') := fun a j z1 z2 z3 z4 z5 z6 => by
  rw [xup2_n (fun y => z3 ⟨y.1, .inr y.2⟩), xup2_n z5, h a j z1 z2 (fun y => z3 ⟨y.1, .inl y.2⟩) z4 z6, xup2_n (fun y => z1 ⟨y.1, .inl y.2⟩)]
theorem xFs.u8 {sl : Nat} {v : Int} (hu : 278 < u) (h : xFs u sl (xup2 G 72 1 v) G') : G' u 8 = G u 8 := by
  rw [h u 8 (by omega) (by omega) (by omega) (by omega) (by omega), xup2_n (by omega)]
theorem cXr.k288 {sg v : Int} (h : cXr S G B n t N w u V K i) : cXr S (xup2 (xup2 G (u + 2) l sg) u 8 v) B n t N w u V K i := by
  have hu := h.2.2.2.1.2.1
  have h1 : cXr S (xup2 G (u + 2) l sg) B n t N w u V K i := h.st1 (by omega) (by omega) (by omega)
  exact h1.st1 (by omega) (by omega) (by omega)
theorem cSg.k288 {sg v : Int} {sl : Nat} {E : pCd} (h : cSg G u K sl E) : cSg (xup2 (xup2 G (u + 2) l sg) u 8 v) u K sl E := by
  have := cSg.ge (D := []) (G' := xup2 (xup2 G (u + 2) l sg) u 8 v) h (by rw [xup2_n (by omega), xup2_n (by omega)]) (by rw [xup2_n (by omega), xup2_n (by omega)])
  rw [List.append_nil] at this
  exact this
theorem k288_s {sg v : Int} : xup2 (xup2 G (u + 2) l sg) u 8 v (u + 2) l = sg := by rw [xup2_n (by omega), xup2_s]
theorem st_288 {sg lK : Int} {G1 : xG_} (hs : cSs S) (hl : l < 8) (u2 : 278 < u) (us : S u = (1, 6, 20)) (us7 : S (u + 7) = (2, 3, 20)) (d1 : c37 f 72 (S, G, m) = some (S, G1, m)) (u1 : G1 72 5 = (u : Int)) (w14 : G1 u 14 = ((u + 7 : Nat) : Int)) (h9 : G1 72 9 = lK) (el : xwr (((4 + 2 * l : Nat) : Int) + 1) = ((5 + 2 * l : Nat) : Int)) : c45_288 f 72 ((4 + 2 * l : Nat) : Int) sg (S, G, m) = ((c53 f 72 0 (S, xup2 G1 (u + 7) (5 + 2 * l) lK, m)).bind fun R => c45_288t f 72 ((4 + 2 * l : Nat) : Int) sg R) := by
  rw [c45_288t_e]
  simp (disch := omega) only [cq_gi, cq_gr, cq_a, cq_s, cq_p, cq_pr, cq_is, cq_ar, cq_ab, cq_ln, xq_nz, Option.bind_some, xup2_n, xup2_s, Int.toNat_natCast, Int.reduceToNat, if_pos, if_neg, true_and, and_true, and_self, eq_self, if_true, reduceIte, not_true_eq_false, not_false_eq_true, or_true, true_or, s72 hs, us, us7, d1, u1, w14, h9, el]
theorem st_288t {sg lK : Int} {G1 : xG_} (hs : cSs S) (hl : l < 8) (u2 : 278 < u) (us : S u = (1, 6, 20)) (us2 : S (u + 2) = (2, 3, 8)) (us8 : S (u + 8) = (2, 3, 20)) (a3 : G1 72 9 = lK) (a4 : G1 72 5 = (u : Int)) (v9 : G1 u 9 = ((u + 2 : Nat) : Int)) (v15 : G1 u 15 = ((u + 8 : Nat) : Int)) (q8 : G1 u 8 = (l : Int)) (el : xwr (((4 + 2 * l : Nat) : Int) + 1) = ((5 + 2 * l : Nat) : Int)) (el1 : xwr ((l : Int) + 1) = ((l + 1 : Nat) : Int)) : c45_288t f 72 ((4 + 2 * l : Nat) : Int) sg (.inr (), (S, G1, m)) = some (.inr (), (S, xup2 (xup2 (xup2 G1 (u + 8) (5 + 2 * l) lK) (u + 2) l sg) u 8 ((l + 1 : Nat) : Int), m)) := by
  unfold c45_288t
  simp (disch := omega) only [cq_gi, cq_gr, cq_a, cq_s, cq_p, cq_pr, cq_is, cq_ar, cq_ab, cq_ln, xq_nz, Option.bind_some, xup2_n, xup2_s, Int.toNat_natCast, Int.reduceToNat, if_pos, if_neg, true_and, and_true, and_self, eq_self, if_true, reduceIte, not_true_eq_false, not_false_eq_true, or_true, true_or, s72 hs, us, us2, us8, cth, a3, a4, v9, v15, q8, el, el1]
theorem st_177 {lK : Int} (hs : cSs S) (hl : l < 8) (u2 : 278 < u) (us : S u = (1, 6, 20)) (us7 : S (u + 7) = (2, 3, 20)) (u1 : G 72 5 = (u : Int)) (w14 : G u 14 = ((u + 7 : Nat) : Int)) (h9 : G 72 9 = lK) (hl8 : G u 8 = (l : Int)) (el : xwr (4 + xwr (2 * (l : Int))) = ((4 + 2 * l : Nat) : Int)) : c45_177 f 72 (S, G, m) = ((c53 f 72 0 (S, xup2 G (u + 7) (4 + 2 * l) lK, m)).bind fun R => c45_177t f 72 (l : Int) R) := by
  rw [c45_177t_e]
  simp (disch := omega) only [cq_gi, cq_gr, cq_a, cq_s, cq_p, cq_pr, cq_is, cq_ar, cq_ab, cq_ln, xq_nz, Option.bind_some, xup2_n, xup2_s, Int.toNat_natCast, Int.reduceToNat, if_pos, if_neg, true_and, and_true, and_self, eq_self, if_true, reduceIte, not_true_eq_false, not_false_eq_true, or_true, true_or, s72 hs, us, us7, u1, w14, h9, hl8, el]
theorem st_177t {lK k s' : Int} {G1 : xG_} {x : Nat} (hs : cSs S) (hl : l < 8) (hx : x ≤ 3000) (u2 : 278 < u) (us : S u = (1, 6, 20)) (us8 : S (u + 8) = (2, 3, 20)) (a3 : G1 72 9 = lK) (a4 : G1 72 5 = (u : Int)) (v15 : G1 u 15 = ((u + 8 : Nat) : Int)) (el : xwr (4 + xwr (2 * (l : Int))) = ((4 + 2 * l : Nat) : Int)) (p0 : G1 72 0 = 65) (p3 : G1 65 3 = 67) (p4 : G1 65 4 = 68) (k1 : G1 67 x = k) (k2 : G1 68 x = s') (k3 : G1 72 1 = (x : Int)) : c45_177t f 72 (l : Int) (.inr (), (S, G1, m)) = if k = 61 ∨ k = 60 ∨ k = 62 ∨ k = 257 ∨ k = 258 ∨ k = 259 then c45_288 f 72 ((4 + 2 * l : Nat) : Int) k (S, xup2 G1 (u + 8) (4 + 2 * l) lK, m) else some (.inl 0, cWr S (xup2 G1 (u + 8) (4 + 2 * l) lK) m s') := by
  have e : c45_177t f 72 (l : Int) (.inr (), (S, G1, m)) = c45_177u f 72 (l : Int) (S, xup2 G1 (u + 8) (4 + 2 * l) lK, m) k := by
    rw [c45_177u_e]
    simp (disch := omega) only [cq_gi, cq_gr, cq_a, cq_s, cq_p, cq_pr, cq_is, cq_ar, cq_ab, cq_ln, xq_nz, Option.bind_some, xup2_n, xup2_s, Int.toNat_natCast, Int.reduceToNat, if_pos, if_neg, true_and, and_true, and_self, eq_self, if_true, reduceIte, not_true_eq_false, not_false_eq_true, or_true, true_or, s72 hs, s65 hs, s67 hs, us, us8, el, cth, a3, a4, v15, p0, p3, k1, k3]
  have e' : ((cq_gr 4 0 20 72 (S, xup2 G1 (u + 8) (4 + 2 * l) lK, m)).bind fun v215 => ((cq_gr 8 4 8 (v215) (S, xup2 G1 (u + 8) (4 + 2 * l) lK, m)).bind fun v217 => ((cq_gi 4 1 20 72 (S, xup2 G1 (u + 8) (4 + 2 * l) lK, m)).bind fun v219 => ((cq_a 3 (v217) (v219) (S, xup2 G1 (u + 8) (4 + 2 * l) lK, m)).bind fun v221 => ((cq_is 4 20 72 (S, xup2 G1 (u + 8) (4 + 2 * l) lK, m)).bind fun _ => ((c36 f 72 (v221) (S, xup2 G1 (u + 8) (4 + 2 * l) lK, m)).bind fun R223 => c45_177w f 72 (l : Int) k R223)))))) = some (.inl 0, cWr S (xup2 G1 (u + 8) (4 + 2 * l) lK) m s') := by
    simp (disch := omega) only [cq_gi, cq_gr, cq_a, cq_s, cq_p, cq_pr, cq_is, cq_ar, cq_ab, cq_ln, xq_nz, Option.bind_some, xup2_n, xup2_s, Int.toNat_natCast, Int.reduceToNat, if_pos, if_neg, true_and, and_true, and_self, eq_self, if_true, reduceIte, not_true_eq_false, not_false_eq_true, or_true, true_or, s72 hs, s65 hs, s68 hs, p0, p4, k2, k3, k_36 hs]
    rfl
  rw [e, c45_177w_e, el, e']
  by_cases c1 : k = 61
  · rw [if_pos c1, if_pos (.inl c1)]
  rw [if_neg c1]
  by_cases c2 : k = 60
  · rw [if_pos c2, if_pos (.inr (.inl c2))]
  rw [if_neg c2]
  by_cases c3 : k = 62
  · rw [if_pos c3, if_pos (.inr (.inr (.inl c3)))]
  rw [if_neg c3]
  by_cases c4 : k = 257
  · rw [if_pos c4, if_pos (.inr (.inr (.inr (.inl c4))))]
  rw [if_neg c4]
  by_cases c5 : k = 258
  · rw [if_pos c5, if_pos (.inr (.inr (.inr (.inr (.inl c5)))))]
  rw [if_neg c5]
  by_cases c6 : k = 259
  · rw [if_pos c6, if_pos (.inr (.inr (.inr (.inr (.inr c6)))))]
  rw [if_neg c6, if_neg (by omega)]
theorem k177_tk {G1 : xG_} {a sl : Nat} {v : Int} (ha : 278 < a) (hX : cXr S (xup2 G1 a sl v) B n t N w u V K i) : G1 67 (min i N) = kK t i ∧ G1 68 (min i N) = (kS t i : Int) ∧ G1 72 1 = ((min i N : Nat) : Int) ∧ min i N ≤ 3000 ∧ G1 72 0 = 65 ∧ G1 65 3 = 67 ∧ G1 65 4 = 68 := by
  obtain ⟨k1, k2, k3, k4⟩ := hX.1.tk hX.2.1
  have z : ∀ b j, b < 279 → xup2 G1 a sl v b j = G1 b j := fun b j hb => xup2_n (by omega)
  have p0 := p72_0 hX.1.2.1
  have p3 := p65_3 hX.1.2.1
  have p4 := p65_4 hX.1.2.1
  rw [z _ _ (by decide)] at k1 k2 k3 p0 p3 p4
  exact ⟨k1, k2, k3, k4, p0, p3, p4⟩
theorem k_288 {sg : Int} {i0 : Nat} (hf : 3010 < f) (hok : tOk t) (hvi : vIn t B n) (hF : 4 * N + 2 ≤ F) (h : cXr S G B n t N w u V K i) (hK : K.length + i0 ≤ i) (hl : l < 8) (hl8 : G u 8 = (l : Int)) (h0 : kK t i ≠ 0) (h5 : kK t i ≠ 5) :
    pok (pX t F 1 0 (V, [], i + 1)) (fun x => ∃ G', c45_288 f 72 ((4 + 2 * l : Nat) : Int) sg (S, G, m) = some (.inl 0, cWr S G' m (x : Int)) ∧ xFc u (5 + 2 * l) l G G')
      (fun e => ∃ G', c45_288 f 72 ((4 + 2 * l : Nat) : Int) sg (S, G, m) = some (.inr (), (S, G', m)) ∧ xFc u (5 + 2 * l) l G G' ∧ cXr S G' B n t N w u e.1 (K ++ e.2.1.map cOp) e.2.2 ∧ i < e.2.2 ∧ (K ++ e.2.1.map cOp).length + i0 ≤ e.2.2 ∧ cSg G' u (K ++ e.2.1.map cOp) (5 + 2 * l) e.2.1 ∧ G' (u + 2) l = sg ∧ G' u 8 = ((l + 1 : Nat) : Int)) := by
  have hs := h.1.1
  obtain ⟨u1, u2, ⟨us, us1, us2, us3, us4, us5, us6, us7, us8, _⟩, w7, w9, w10, w11, w12, w13, w14, w15, _⟩ := h.2.2.2.1
  obtain ⟨l1, l2⟩ := h.1.lt h.2.1 h0
  obtain ⟨d1, d2⟩ := k_37 (f := f) (m := m) h.1 h.2.1 h5
  obtain ⟨y1, y2⟩ := h.at d2 (by omega)
  have h9 := h.2.2.2.2.2.2.1
  have el : xwr (((4 + 2 * l : Nat) : Int) + 1) = ((5 + 2 * l : Nat) : Int) := by rw [xwr_g _ (by omega) (by omega)]; omega
  have el1 : xwr ((l : Int) + 1) = ((l + 1 : Nat) : Int) := by rw [xwr_g _ (by omega) (by omega)]; omega
  have p := k_seg (f := f) (m := m) (F := F) (sl := 5 + 2 * l) (i0 := i0) hf hok hvi hF y2 (by omega)
  have e0 := st_288 (f := f) (m := m) (sg := sg) hs hl u2 us us7 d1 y2.2.2.2.1.1 y2.2.2.2.1.2.2.2.2.2.2.2.2.2.1 y2.2.2.2.2.2.2.1 el
  cases hp : pX t F 1 0 (V, [], i + 1) with
  | inl x =>
    rw [hp] at p
    obtain ⟨G1, a1, a2⟩ := p
    refine ⟨G1, ?_, a2.ca⟩
    rw [e0, a1]
    rfl
  | inr e =>
    rw [hp] at p
    obtain ⟨G1, a1, a3, a4, a5, a6, a7, a8, a9, a10, a11⟩ := p
    have q8 : G1 u 8 = (l : Int) := by rw [a6.u8 u2]; exact hl8
    obtain ⟨_, v9, _, _, _, _, _, v15, _⟩ := a5
    have e1 := st_288t (f := f) (m := m) (sg := sg) hs hl u2 us us2 us8 a3 a4 v9 v15 q8 el el1
    exact ⟨_, by rw [e0, a1]; exact e1, a9.cb, a10.k288, by omega, a8, a11.k288, k288_s, xup2_s _ _ _ _⟩
theorem cPr0.fc {sl : Nat} (h : cPr0 S G q tell L) (hx : xFc u sl l G G') (hqu : q + 10 < u) : cPr0 S G' q tell L := by
  have hq := h.2.1
  exact h.ge (hx _ _ (by omega) (by omega) (by omega) (by omega) (by omega) (by omega)) (hx _ _ (by omega) (by omega) (by omega) (by omega) (by omega) (by omega)) (fun j _ _ _ => hx _ _ (by omega) (by omega) (by omega) (by omega) (by omega) (by omega)) (fun j => hx _ _ (by omega) (by omega) (by omega) (by omega) (by omega) (by omega))
theorem cWd.fc {sl : Nat} (h : cWd G q M) (hx : xFc u sl l G G') (hq : 82 < q) (hqu : q + 10 < u) : cWd G' q M := h.ge (fun j => hx _ _ (by omega) (by omega) (by omega) (by omega) (by omega) (by omega))
theorem cMe.fc {sl : Nat} (h : cMe G M) (hx : xFc u sl l G G') (hu : 278 < u) : cMe G' M := h.ge (hx _ _ (by omega) (by omega) (by omega) (by omega) (by omega) (by omega)) (fun a k z1 z2 => hx _ _ (by omega) (by omega) (by omega) (by omega) (by omega) (by omega))
theorem xFc.f2 {sl : Nat} (h : xFc u sl l G G') (h4 : 4 ≤ sl) : xF2 tell q u G G' := fun a j p1 p2 p3 p4 p5 p6 => h a j (by omega) (by omega) (by omega) (by omega) (by omega) (by omega)
def cSgn (x : Int) : Prop := x = 61 ∨ x = 257 ∨ x = 60 ∨ x = 258 ∨ x = 62 ∨ x = 259
/-- the first side and the sign -/
theorem k_177 {i0 : Nat} (hf : 3010 < f) (hok : tOk t) (hvi : vIn t B n) (hF : 4 * N + 2 ≤ F) (h : cXr S G B n t N w u V K i) (hK : K.length + i0 ≤ i) (hl : l < 8) (hl8 : G u 8 = (l : Int)) :
    pok (pX t F 1 0 (V, [], i)) (fun x => ∃ G', c45_177 f 72 (S, G, m) = some (.inl 0, cWr S G' m (x : Int)) ∧ xFs u (4 + 2 * l) G G')
      (fun e => ∃ G', (cSgn (kK t e.2.2) → c45_177 f 72 (S, G, m) = c45_288 f 72 ((4 + 2 * l : Nat) : Int) (kK t e.2.2) (S, G', m)) ∧ (¬ cSgn (kK t e.2.2) → c45_177 f 72 (S, G, m) = some (.inl 0, cWr S G' m (kS t e.2.2 : Int))) ∧ xFs u (4 + 2 * l) G G' ∧ cXr S G' B n t N w u e.1 (K ++ e.2.1.map cOp) e.2.2 ∧ i < e.2.2 ∧ (K ++ e.2.1.map cOp).length + i0 ≤ e.2.2 ∧ cSg G' u (K ++ e.2.1.map cOp) (4 + 2 * l) e.2.1) := by
  have hs := h.1.1
  have hpp := h.1.2.1
  obtain ⟨u1, u2, ⟨us, us1, us2, us3, us4, us5, us6, us7, us8, _⟩, w7, w9, w10, w11, w12, w13, w14, w15, _⟩ := h.2.2.2.1
  have h9 := h.2.2.2.2.2.2.1
  have el : xwr (4 + xwr (2 * (l : Int))) = ((4 + 2 * l : Nat) : Int) := by rw [xwr_g (2 * (l : Int)) (by omega) (by omega), xwr_g _ (by omega) (by omega)]; omega
  have p := k_seg (f := f) (m := m) (F := F) (sl := 4 + 2 * l) hf hok hvi hF h hK
  have e0 := st_177 (f := f) (m := m) hs hl u2 us us7 u1 w14 h9 hl8 el
  cases hp : pX t F 1 0 (V, [], i) with
  | inl x =>
    rw [hp] at p
    obtain ⟨G1, a1, a2⟩ := p
    refine ⟨G1, ?_, a2⟩
    rw [e0, a1]
    rfl
  | inr e =>
    rw [hp] at p
    obtain ⟨G1, a1, a3, a4, a5, a6, a7, a8, a9, a10, a11⟩ := p
    obtain ⟨_, v9, _, _, _, _, _, v15, _⟩ := a5
    obtain ⟨k1, k2, k3, k4, p0, p3, p4⟩ := k177_tk (Nat.lt_add_right 8 u2) a10
    have e1 := st_177t (f := f) (m := m) hs hl k4 u2 us us8 a3 a4 v15 el p0 p3 p4 k1 k2 k3
    have e2 : c45_177 f 72 (S, G, m) = c45_177t f 72 (l : Int) (.inr (), (S, G1, m)) := by rw [e0, a1]; rfl
    refine ⟨_, fun c => ?_, fun c => ?_, a9, a10, a7, a8, a11⟩
    · unfold cSgn at c
      rw [e2, e1, if_pos (by clear e0 e1 e2 a1; omega)]
    · unfold cSgn at c
      rw [e2, e1, if_neg (by clear e0 e1 e2 a1; omega)]
end
end
section
/-! THE CLASS reads LITERALS: readLiteral() -/
section
variable {f n N w i i' u q l F : Nat} {S : Nat → Nat × Nat × Nat} {G G' G'' : xG_} {m : Nat × Nat} {B : Nat → Int} {t : tStr} {V V' : List (Int × Nat)} {K K' : pCd} {L L' : List Int} {tell : Bool} {M : List pMn} {s : pRs}
theorem cSg.fc {sl s' : Nat} {E D : pCd} (h : cSg G u K s' E) (hu : 278 < u) (hx : xFc u sl l G G') (hne : s' ≠ sl) : cSg G' u (K ++ D) s' E := h.ge (hx (u + 7) s' (by omega) (by omega) (by omega) (by omega) (by omega) (by omega)) (hx (u + 8) s' (by omega) (by omega) (by omega) (by omega) (by omega) (by omega))
theorem xFsc (h : xFs u (4 + 2 * l) G G') (h' : xFc u (5 + 2 * l) l G' G'') (hu : 278 < u) : (∀ a k, k < l → u + 2 ≤ a → a ≤ u + 4 → G'' a k = G a k) ∧ (∀ j, G'' (u + 5) j = G (u + 5) j ∧ G'' (u + 6) j = G (u + 6) j) ∧ (∀ j, j < 4 + 2 * l → G'' (u + 7) j = G (u + 7) j ∧ G'' (u + 8) j = G (u + 8) j) := by
  have z : ∀ a j, u + 2 ≤ a → ¬ (a = u + 2 ∧ j = l) → ¬ ((a = u + 7 ∨ a = u + 8) ∧ 4 + 2 * l ≤ j) → G'' a j = G a j := fun a j p1 p2 p3 => by
    rw [h' a j (by omega) (by omega) (by omega) (by omega) p2 (by omega), h a j (by omega) (by omega) (by omega) (by omega) (by omega)]
  exact ⟨fun a k hk z1 z2 => z a k z1 (by omega) (by omega), fun j => ⟨z _ j (by omega) (by omega) (by omega), z _ j (by omega) (by omega) (by omega)⟩, fun j hj => ⟨z _ j (by omega) (by omega) (by omega), z _ j (by omega) (by omega) (by omega)⟩⟩
theorem k_cmp {i0 : Nat} (hf : 3010 < f) (hok : tOk t) (hvi : vIn t B n) (hF : 4 * N + 2 ≤ F) (h : cRL S G B n t N w q u tell s K i0) (hl : s.2.2.1.length < 8) :
    pok (pCmp t F s) (fun x => ∃ G', c45_177 f 72 (S, G, m) = some (.inl 0, cWr S G' m (x : Int)) ∧ xF2 tell q u G G')
      (fun s' => ∃ G' K', c45_177 f 72 (S, G, m) = some (.inr (), (S, G', m)) ∧ xF2 tell q u G G' ∧ (∃ D, K' = K ++ D) ∧ cRL S G' B n t N w q u tell s' K' i0) := by
  obtain ⟨h1, h2, h3, h4, h5, h6, h7, h8⟩ := h
  have hu := h1.2.2.2.1.2.1
  have p := k_177 (f := f) (m := m) (F := F) (l := s.2.2.1.length) hf hok hvi hF h1 h8 hl h6.1
  unfold pCmp
  cases hp : pX t F 1 0 (s.2.1, [], s.2.2.2.2) with
  | inl x =>
    rw [hp] at p
    obtain ⟨G1, a1, a2⟩ := p
    exact ⟨G1, a1, a2.f2 (by omega)⟩
  | inr a =>
    rw [hp] at p
    obtain ⟨G1, a1, a2, a3, a4, a5, a6, a7⟩ := p
    show pok (if kK t a.2.2 = 61 ∨ kK t a.2.2 = 257 ∨ kK t a.2.2 = 60 ∨ kK t a.2.2 = 258 ∨ kK t a.2.2 = 62 ∨ kK t a.2.2 = 259 then pbind (pX t F 1 0 (a.1, [], a.2.2 + 1)) fun b => .inr (s.1, b.1, s.2.2.1 ++ [(3, kK t a.2.2, kS t s.2.2.2.2, [], a.2.1, b.2.1)], s.2.2.2.1, b.2.2) else .inl (kS t a.2.2)) _ _
    by_cases c : cSgn (kK t a.2.2)
    · have c' : kK t a.2.2 = 61 ∨ kK t a.2.2 = 257 ∨ kK t a.2.2 = 60 ∨ kK t a.2.2 = 258 ∨ kK t a.2.2 = 62 ∨ kK t a.2.2 = 259 := c
      rw [if_pos c']
      have p2 := k_288 (f := f) (m := m) (F := F) (sg := kK t a.2.2) (l := s.2.2.1.length) hf hok hvi hF a4 a6 hl (by rw [a3 u 8 (by omega) (by omega) (by omega) (by omega) (by omega)]; exact h6.1) (by omega) (by omega)
      rw [a1 c]
      cases hq : pX t F 1 0 (a.1, [], a.2.2 + 1) with
      | inl x =>
        rw [hq] at p2
        obtain ⟨G2, b1, b2⟩ := p2
        exact ⟨G2, b1, (a3.f2 (by omega)).tr (b2.f2 (by omega))⟩
      | inr b =>
        rw [hq] at p2
        obtain ⟨G2, b1, b2, b3, b4, b5, b6, b7, b8⟩ := p2
        obtain ⟨y1, y2, y3⟩ := xFsc a3 b2 hu
        refine ⟨G2, K ++ a.2.1.map cOp ++ b.2.1.map cOp, b1, (a3.f2 (by omega)).tr (b2.f2 (by omega)), ⟨a.2.1.map cOp ++ b.2.1.map cOp, List.append_assoc ..⟩, b3, (h2.fs a3 h3).fc b2 h3, h3, (h4.fs a3 hu).fc b2 hu, fun z => ⟨((h5 z).1.fs a3 h2.2.1 h3).fc b2 h2.2.1 h3, (h5 z).2⟩, ?_, ?_, b5⟩
        · have hx : cLt G2 u (K ++ (a.2.1.map cOp ++ b.2.1.map cOp)) s.2.2.1.length (3, kK t a.2.2, kS t s.2.2.2.2, [], a.2.1, b.2.1) := by
            rw [← List.append_assoc]
            exact .inr ⟨rfl, b7, c', a7.fc hu b2 (by omega), b6⟩
          have := cLs.add (K' := a.2.1.map cOp ++ b.2.1.map cOp) h6 hl b8 hx (fun a l z1 z2 z3 => y1 a l z1 z2 z3) (fun j _ => y2 j) (fun j hj _ => y3 j hj)
          rw [← List.append_assoc] at this
          exact this
        · show 3 * s.2.2.2.1.length ≤ b.2.2
          omega
    · have c' : ¬ (kK t a.2.2 = 61 ∨ kK t a.2.2 = 257 ∨ kK t a.2.2 = 60 ∨ kK t a.2.2 = 258 ∨ kK t a.2.2 = 62 ∨ kK t a.2.2 = 259) := c
      rw [if_neg c']
      exact ⟨G1, a2 c, a3.f2 (by omega)⟩
end
end
section
/-! THE CLASS reads LITERALS: readLiteral() -/
def c45r (R : (Nat ⊕ Unit) × xT_) : Option ((Nat ⊕ Unit) × xT_) := cth R (fun _ => some (.inr (), R.2))
section
variable {f n N w i i' u q l F : Nat} {S : Nat → Nat × Nat × Nat} {G G1 G' G'' : xG_} {m : Nat × Nat} {B : Nat → Int} {t : tStr} {V V' : List (Int × Nat)} {K K' : pCd} {L L' : List Int} {tell : Bool} {M : List pMn} {s : pRs} {k sp : Int} {x : Nat}
theorem st_45 (hs : cSs S) (hp : cPs G) (hx : x ≤ 3000) (u2 : 278 < u) (us : S u = (1, 6, 20)) (u1 : G 72 5 = (u : Int)) (h8 : G u 8 = (l : Int)) (k2 : G 68 x = sp) (k3 : G 72 1 = (x : Int)) : c45 f 72 (S, G, m) = if l = 8 then some (.inl 0, cWr S G m sp) else c45_30 f 72 sp (S, G, m) := by
  by_cases c : l = 8
  · rw [if_pos c]
    have h8' : G u 8 = 8 := by rw [h8, c]; rfl
    unfold c45
    simp (disch := omega) only [cq_gi, cq_gr, cq_a, cq_s, cq_p, cq_pr, cq_is, cq_ar, cq_ab, cq_ln, xq_nz, Option.bind_some, xup2_n, xup2_s, Int.toNat_natCast, Int.reduceToNat, if_pos, if_neg, true_and, and_true, and_self, eq_self, if_true, reduceIte, not_true_eq_false, not_false_eq_true, or_true, true_or, s72 hs, s65 hs, s68 hs, p72_0 hp, p65_4 hp, us, u1, h8', k2, k3, k_36 hs, cth]
  · rw [if_neg c]
    unfold c45
    simp (disch := omega) only [cq_gi, cq_gr, cq_a, cq_s, cq_p, cq_pr, cq_is, cq_ar, cq_ab, cq_ln, xq_nz, Option.bind_some, xup2_n, xup2_s, Int.toNat_natCast, Int.reduceToNat, if_pos, if_neg, true_and, and_true, and_self, eq_self, if_true, reduceIte, not_true_eq_false, not_false_eq_true, or_true, true_or, s72 hs, s65 hs, s68 hs, p72_0 hp, p65_4 hp, us, u1, h8, k2, k3]
theorem st_45_9 (hs : cSs S) (hp : cPs G) (hx : x ≤ 3000) (k1 : G 67 x = 9) (k3 : G 72 1 = (x : Int)) (d1 : c37 f 72 (S, G, m) = some (S, G1, m)) : c45_30 f 72 sp (S, G, m) = ((c46 f 72 9 (S, G1, m)).bind fun R => c45r R) := by
  unfold c45_30
  simp (disch := omega) only [cq_gi, cq_gr, cq_a, cq_s, cq_p, cq_pr, cq_is, cq_ar, cq_ab, cq_ln, xq_nz, Option.bind_some, xup2_n, xup2_s, Int.toNat_natCast, Int.reduceToNat, if_pos, if_neg, true_and, and_true, and_self, eq_self, if_true, reduceIte, not_true_eq_false, not_false_eq_true, or_true, true_or, s72 hs, s65 hs, s67 hs, p72_0 hp, p65_3 hp, k1, k3, d1]
  rfl
theorem st_45_o (hs : cSs S) (hp : cPs G) (hx : x ≤ 3000) (k1 : G 67 x = k) (k3 : G 72 1 = (x : Int)) (h9 : k ≠ 9) (h1 : k ≠ 1) : c45_30 f 72 sp (S, G, m) = c45_177 f 72 (S, G, m) := by
  unfold c45_30
  simp (disch := omega) only [cq_gi, cq_gr, cq_a, cq_s, cq_p, cq_pr, cq_is, cq_ar, cq_ab, cq_ln, xq_nz, Option.bind_some, xup2_n, xup2_s, Int.toNat_natCast, Int.reduceToNat, if_pos, if_neg, true_and, and_true, and_self, eq_self, if_true, reduceIte, not_true_eq_false, not_false_eq_true, or_true, true_or, s72 hs, s65 hs, s67 hs, p72_0 hp, p65_3 hp, k1, k3]
theorem st_45_1 {le : Nat} (hs : cSs S) (hp : cPs G) (hx : x ≤ 3000) (k1 : G 67 x = 1) (k3 : G 72 1 = (x : Int)) (e124 : c124 f 65 (x : Int) (S, G, m) = some ((le : Int), (S, G, m))) (e2 : xwr (sp + 12) = sp + 12) : c45_30 f 72 sp (S, G, m) = if 12 < le then some (.inl 0, cWr S G m (sp + 12)) else c45_98 f 72 sp (S, G, m) := by
  by_cases c : 12 < le
  · rw [if_pos c]
    unfold c45_30
    simp (disch := omega) only [cq_gi, cq_gr, cq_a, cq_s, cq_p, cq_pr, cq_is, cq_ar, cq_ab, cq_ln, xq_nz, Option.bind_some, xup2_n, xup2_s, Int.toNat_natCast, Int.reduceToNat, if_pos, if_neg, true_and, and_true, and_self, eq_self, if_true, reduceIte, not_true_eq_false, not_false_eq_true, or_true, true_or, s72 hs, s65 hs, s67 hs, p72_0 hp, p65_3 hp, k1, k3, e124, e2, k_36 hs, cth]
  · rw [if_neg c]
    unfold c45_30
    simp (disch := omega) only [cq_gi, cq_gr, cq_a, cq_s, cq_p, cq_pr, cq_is, cq_ar, cq_ab, cq_ln, xq_nz, Option.bind_some, xup2_n, xup2_s, Int.toNat_natCast, Int.reduceToNat, if_pos, if_neg, true_and, and_true, and_self, eq_self, if_true, reduceIte, not_true_eq_false, not_false_eq_true, or_true, true_or, s72 hs, s65 hs, s67 hs, p72_0 hp, p65_3 hp, k1, k3, e124]
theorem st_98_a {at' : Nat} (hs : cSs S) (hp : cPs G) (hx : x + 1 ≤ 3000) (u2 : 278 < u) (us : S u = (1, 6, 20)) (u1 : G 72 5 = (u : Int)) (k1 : G 67 (x + 1) = 40) (k3 : G 72 1 = (x : Int)) (e : xwr ((x : Int) + 1) = ((x + 1 : Nat) : Int)) (e89 : c89 f u (S, G, m) = some ((at' : Int), (S, G, m))) : c45_98 f 72 sp (S, G, m) = if at' = 3 then some (.inl 0, cWr S G m sp) else ((c46 f 72 15 (S, G, m)).bind fun R => c45r R) := by
  by_cases c : at' = 3
  · rw [if_pos c]
    have e89' : c89 f u (S, G, m) = some (3, (S, G, m)) := by rw [e89, c]; rfl
    unfold c45_98
    simp (disch := omega) only [cq_gi, cq_gr, cq_a, cq_s, cq_p, cq_pr, cq_is, cq_ar, cq_ab, cq_ln, xq_nz, Option.bind_some, xup2_n, xup2_s, Int.toNat_natCast, Int.reduceToNat, if_pos, if_neg, true_and, and_true, and_self, eq_self, if_true, reduceIte, not_true_eq_false, not_false_eq_true, or_true, true_or, s72 hs, s65 hs, s67 hs, p72_0 hp, p65_3 hp, k1, k3, e, us, u1, e89', k_36 hs, cth]
  · rw [if_neg c]
    unfold c45_98 c45_133
    simp (disch := omega) only [cq_gi, cq_gr, cq_a, cq_s, cq_p, cq_pr, cq_is, cq_ar, cq_ab, cq_ln, xq_nz, Option.bind_some, xup2_n, xup2_s, Int.toNat_natCast, Int.reduceToNat, if_pos, if_neg, true_and, and_true, and_self, eq_self, if_true, reduceIte, not_true_eq_false, not_false_eq_true, or_true, true_or, s72 hs, s65 hs, s67 hs, p72_0 hp, p65_3 hp, k1, k3, e, us, u1, e89]
    rfl
theorem st_98_b {se : Int} (hs : cSs S) (hp : cPs G) (hx : x + 1 ≤ 3000) (k1 : G 67 (x + 1) = k) (hk : k ≠ 40) (k2 : G 68 (x + 1) = sp) (k3 : G 72 1 = (x : Int)) (k4 : G 71 x = se) (e : xwr ((x : Int) + 1) = ((x + 1 : Nat) : Int)) {sq : Int} : c45_98 f 72 sq (S, G, m) = if se = -1 then some (.inl 0, cWr S G m sp) else c45_177 f 72 (S, G, m) := by
  by_cases c : se = -1
  · rw [if_pos c]
    rw [c] at k4
    unfold c45_98
    simp (disch := omega) only [cq_gi, cq_gr, cq_a, cq_s, cq_p, cq_pr, cq_is, cq_ar, cq_ab, cq_ln, xq_nz, Option.bind_some, xup2_n, xup2_s, Int.toNat_natCast, Int.reduceToNat, if_pos, if_neg, true_and, and_true, and_self, eq_self, if_true, reduceIte, not_true_eq_false, not_false_eq_true, or_true, true_or, s72 hs, s65 hs, s67 hs, s68 hs, s71 hs, p72_0 hp, p65_3 hp, p65_4 hp, p65_7 hp, k1, k2, k3, k4, e, k_36 hs, cth]
  · rw [if_neg c]
    unfold c45_98
    simp (disch := omega) only [cq_gi, cq_gr, cq_a, cq_s, cq_p, cq_pr, cq_is, cq_ar, cq_ab, cq_ln, xq_nz, Option.bind_some, xup2_n, xup2_s, Int.toNat_natCast, Int.reduceToNat, if_pos, if_neg, true_and, and_true, and_self, eq_self, if_true, reduceIte, not_true_eq_false, not_false_eq_true, or_true, true_or, s72 hs, s65 hs, s67 hs, s71 hs, p72_0 hp, p65_3 hp, p65_7 hp, k1, k3, k4, e]
/-- the TOKEN behind -/
theorem cEv.nx (hE : cEv S G B n t N w) (hA : cAt G N w i) (h0 : kK t i ≠ 0) (h5 : kK t i ≠ 5) : G 67 (i + 1) = kK t (i + 1) ∧ G 68 (i + 1) = (kS t (i + 1) : Int) ∧ i + 1 ≤ N := by
  have hlt := (hE.lt hA h0).1
  obtain ⟨_, a2⟩ := k_37 (f := 0) (m := (0, 0)) hE hA h5
  obtain ⟨k1, k2, _, _⟩ := (hE.u1 (v := ((min (i + 1) N : Nat) : Int))).tk a2
  rw [xup2_n (by omega), Nat.min_eq_left (by omega)] at k1 k2
  exact ⟨k1, k2, by omega⟩
theorem k_45 {i0 : Nat} (hf : 3010 < f) (hok : tOk t) (hvi : vIn t B n) (hF : 4 * N + 2 ≤ F) (h : cRL S G B n t N w q u tell s K i0) :
    pok (pLit t tell F s) (fun x => ∃ G', c45 f 72 (S, G, m) = some (.inl 0, cWr S G' m (x : Int)) ∧ xF2 tell q u G G')
      (fun s' => ∃ G' K', c45 f 72 (S, G, m) = some (.inr (), (S, G', m)) ∧ xF2 tell q u G G' ∧ (∃ D, K' = K ++ D) ∧ cRL S G' B n t N w q u tell s' K' i0) := by
  have h1 := h.1
  have h6 := h.2.2.2.2.2.1
  have hs := h1.1.1
  have hp := h1.1.2.1
  obtain ⟨k1, k2, k3, k4⟩ := h1.1.tk h1.2.1
  have hu := h1.2.2.2.1.2.1
  have hn := h1.1.2.2.1.2.1
  have e45 := st_45 (f := f) (m := m) hs hp k4 hu h1.2.2.2.1.2.2.1.1 h1.2.2.2.1.1 h6.1 k2 k3
  unfold pLit
  by_cases c8 : s.2.2.1.length = 8
  · rw [if_pos c8] at e45 ⊢
    exact ⟨G, e45, .id⟩
  rw [if_neg c8] at e45 ⊢
  have hl : s.2.2.1.length < 8 := by have := h6.2.1; omega
  by_cases c9 : kK t s.2.2.2.2 = 9
  · rw [if_pos c9]
    obtain ⟨l1, l2⟩ := h1.1.lt h1.2.1 (by omega)
    obtain ⟨d1, d2⟩ := k_37 (f := f) (m := m) h1.1 h1.2.1 (by omega)
    obtain ⟨y1, y2⟩ := h1.at d2 (by omega)
    rw [c9] at k1
    rw [e45, st_45_9 hs hp k4 k1 k3 d1]
    have hR : cRL S (xup2 G 72 1 ((min (s.2.2.2.2 + 1) N : Nat) : Int)) B n t N w q u tell (s.1, s.2.1, s.2.2.1, s.2.2.2.1, s.2.2.2.2 + 1) K i0 := by
      obtain ⟨g1, g2, g3, g4, g5, g6, g7, g8⟩ := h
      have z : cLs (xup2 G 72 1 ((min (s.2.2.2.2 + 1) N : Nat) : Int)) u (K ++ []) s.2.2.1 := g6.fs (sl := 0) (fun a j z1 z2 z3 z4 z5 => xup2_n (fun y => z1 ⟨y.1, .inl y.2⟩)) hu (.inr (by decide))
      rw [List.append_nil] at z
      exact ⟨y2, g2.at, g3, at_m g4, fun z => ⟨(g5 z).1.at g2.2.1, (g5 z).2⟩, z, by show 3 * s.2.2.2.1.length ≤ s.2.2.2.2 + 1; omega, by show K.length + i0 ≤ s.2.2.2.2 + 1; omega⟩
    have p := k_46 (f := f) (m := m) (k := 2) (by omega) hok hvi (.inr rfl) hR hl
    rw [if_neg (by decide)] at p
    cases hpa : pAtom t tell 2 (s.1, s.2.1, s.2.2.1, s.2.2.2.1, s.2.2.2.2 + 1) with
    | inl x =>
      rw [hpa] at p
      obtain ⟨G2, a1, a2⟩ := p
      exact ⟨G2, by rw [a1]; rfl, (y1.f1.f2).tr a2⟩
    | inr s' =>
      rw [hpa] at p
      obtain ⟨G2, a1, a2, a3⟩ := p
      exact ⟨G2, K, by rw [a1]; rfl, (y1.f1.f2).tr a2, ⟨[], (List.append_nil K).symm⟩, a3⟩
  rw [if_neg c9]
  have pc := k_cmp (f := f) (m := m) hf hok hvi hF h hl
  by_cases c1 : kK t s.2.2.2.2 = 1
  · rw [if_pos c1]
    obtain ⟨l1, l2⟩ := h1.1.lt h1.2.1 (by omega)
    have em : min s.2.2.2.2 N = s.2.2.2.2 := Nat.min_eq_left (by omega)
    rw [em] at k1 k2 k3 k4
    rw [c1] at k1
    obtain ⟨⟨_, _, a3⟩, _, a5, a6, a7, _⟩ := h1.1.2.2.2.2.2.2 _ l2
    have e124 := k_124 (f := f) (m := m) h1.1 l2 k4
    have e2 : xwr ((kS t s.2.2.2.2 : Int) + 12) = (kS t s.2.2.2.2 : Int) + 12 := xwr_g _ (by omega) (by omega)
    have e30 := st_45_1 hs hp k4 k1 k3 e124 e2
    rw [e30] at e45
    by_cases c12 : 12 < kE t s.2.2.2.2 - kS t s.2.2.2.2
    · rw [if_pos c12] at e45 ⊢
      exact ⟨G, by rw [e45]; rfl, .id⟩
    rw [if_neg c12] at e45 ⊢
    obtain ⟨n1, n2, n3⟩ := h1.1.nx h1.2.1 (by omega) (by omega)
    have hN := h1.1.2.2.2.1.2
    have ex : xwr ((s.2.2.2.2 : Int) + 1) = ((s.2.2.2.2 + 1 : Nat) : Int) := by rw [xwr_g _ (by omega) (by omega)]; omega
    by_cases c40 : kK t (s.2.2.2.2 + 1) = 40
    · rw [if_pos c40]
      rw [c40] at n1
      rw [st_98_a hs hp (by omega) hu h1.2.2.2.1.2.2.1.1 h1.2.2.2.1.1 n1 k3 ex (k_89 (by omega) h1.2.2.2.1 h6)] at e45
      by_cases c3 : pAtoms s.2.2.1 = 3
      · rw [if_pos c3] at e45 ⊢
        exact ⟨G, e45, .id⟩
      rw [if_neg c3] at e45 ⊢
      have p := k_46 (f := f) (m := m) (k := 1) (by omega) hok hvi (.inl rfl) h hl
      rw [if_pos rfl] at p
      rw [e45]
      cases hpa : pAtom t tell 1 s with
      | inl x =>
        rw [hpa] at p
        obtain ⟨G2, a1, a2⟩ := p
        exact ⟨G2, by rw [a1]; rfl, a2⟩
      | inr s' =>
        rw [hpa] at p
        obtain ⟨G2, a1, a2, a3⟩ := p
        exact ⟨G2, K, by rw [a1]; rfl, a2, ⟨[], (List.append_nil K).symm⟩, a3⟩
    · rw [if_neg c40]
      have e71 := a5 (.inl c1)
      rw [st_98_b hs hp (by omega) n1 c40 n2 k3 e71 ex] at e45
      by_cases cw : kW t s.2.2.2.2 = -1
      · rw [if_pos cw] at e45 ⊢
        exact ⟨G, e45, .id⟩
      · rw [if_neg cw] at e45 ⊢
        rw [e45]
        exact pc
  · rw [if_neg c1]
    rw [st_45_o hs hp k4 k1 k3 c9 c1] at e45
    rw [e45]
    exact pc
end
end
