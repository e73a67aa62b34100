/-! THE CLASS reads rules: up to the ITEMS -/
def c43_30t (f : Nat) (x0 : Nat) (x1 : Int) (R251 : (xT_)) : Option ((Nat ⊕ Unit) × xT_) := ((cq_gr 4 5 20 (x0) R251).bind fun v257 => ((cq_p 6 1 20 (v257) (x1) R251).bind fun T260 => ((cq_gr 4 5 20 (x0) T260).bind fun v264 => ((cq_is 4 20 (x0) T260).bind fun _ => ((c47 f (x0) T260).bind fun R266 => cth R266 (fun v272 => ((cq_is 4 20 (x0) R266.2).bind fun _ => ((c48 f (x0) (v272) (x1) R266.2).bind fun R274 => cth R274 (fun v280 => ((cq_p 6 0 20 (v264) (v280) R274.2).bind fun T283 => ((cq_is 4 20 (x0) T283).bind fun _ => ((c38 f (x0) (40) T283).bind fun R287 => cth R287 (fun _ => c43_64  f f (x0) (x1) R287.2)))))))))))))
theorem c43_30t_e (f : Nat) (x0 : Nat) (x1 : Int) (T : xT_) : c43_30 f x0 x1 T = ((cq_is 4 20 (x0) T).bind fun _ => ((c35 f (x0) T).bind fun R251 => c43_30t f x0 x1 R251)) := rfl
def c43_30u (f : Nat) (x0 : Nat) (x1 : Int) (v264 : Nat) (R274 : ((Nat ⊕ Int) × xT_)) : Option ((Nat ⊕ Unit) × xT_) := cth R274 (fun v280 => ((cq_p 6 0 20 (v264) (v280) R274.2).bind fun T283 => ((cq_is 4 20 (x0) T283).bind fun _ => ((c38 f (x0) (40) T283).bind fun R287 => cth R287 (fun _ => c43_64  f f (x0) (x1) R287.2)))))
theorem c43_30u_e (f : Nat) (x0 : Nat) (x1 : Int) (R251 : (xT_)) : c43_30t f x0 x1 R251 = ((cq_gr 4 5 20 (x0) R251).bind fun v257 => ((cq_p 6 1 20 (v257) (x1) R251).bind fun T260 => ((cq_gr 4 5 20 (x0) T260).bind fun v264 => ((cq_is 4 20 (x0) T260).bind fun _ => ((c47 f (x0) T260).bind fun R266 => cth R266 (fun v272 => ((cq_is 4 20 (x0) R266.2).bind fun _ => ((c48 f (x0) (v272) (x1) R266.2).bind fun R274 => c43_30u f x0 x1 v264 R274)))))))) := rfl
section
variable {f n N w i i' u q l F i0 sl : Nat} {S S' : Nat → Nat × Nat × Nat} {G G1 G2 G' G'' : xG_} {m : Nat × Nat} {B : Nat → Int} {t : tStr} {V V' : List (Int × Nat)} {K K' : pCd} {I : List pCd} {g : Int × Int × Int} {x1 sp p v : Int} {L : List Int} {M : List pMn}
theorem cPgS.ge (h : cPgS S q) (h0 : ∀ a, q ≤ a → a ≤ q + 10 → S' a = S a) : cPgS S' q := by
  unfold cPgS at h ⊢
  rw [h0 q (by omega) (by omega), h0 (q + 1) (by omega) (by omega), h0 (q + 2) (by omega) (by omega), h0 (q + 3) (by omega) (by omega), h0 (q + 4) (by omega) (by omega), h0 (q + 5) (by omega) (by omega), h0 (q + 6) (by omega) (by omega), h0 (q + 7) (by omega) (by omega), h0 (q + 8) (by omega) (by omega), h0 (q + 9) (by omega) (by omega), h0 (q + 10) (by omega) (by omega)]
  exact h
theorem cPr0.sg {tell : Bool} (h : cPr0 S G q tell L) (hS : ∀ a, q ≤ a → a ≤ q + 10 → S' a = S a) (h3 : G' 72 3 = G 72 3) (h4 : G' 72 4 = G 72 4) (hq : ∀ j, 1 ≤ j → j ≠ 8 → j ≠ 12 → G' q j = G q j) (hn : ∀ j, G' (q + 1) j = G (q + 1) j) : cPr0 S' G' q tell L := by
  obtain ⟨a1, a2, a3, a4, a5, a6, a7⟩ := h.ge h3 h4 hq hn
  exact ⟨a1, a2, a3, a4, a5.ge hS, a6, a7⟩
/-- a new rule, as EXPRESSIONS see it -/
theorem cXr.new (hu : 278 < u) (hE : cEv S G B n t N w) (hA : cAt G N w i) (hi : i ≤ N) (hS : ∀ a, a < u → S' a = S a) (hG : ∀ a j, a < u → ¬ (a = 72 ∧ (j = 5 ∨ j = 9)) → G' a j = G a j) (h1 : cRuS S' u) (h2 : cRuP G' u) (h3 : cRu1 G' u) (h5 : G' 72 5 = (u : Int)) (h9 : G' 72 9 = 0) : cXr S' G' B n t N w u [] [] i ∧ cIt G' u [] (0, -1, -1) [] ∧ cLs G' u [] [] := by
  refine ⟨⟨hE.ge (fun a ha => hS a (by omega)) (fun a j z1 z2 z3 => hG a j (by omega) (by omega)), ⟨by rw [hG 72 1 (by omega) (by omega)]; exact hA.1, hA.2⟩, hi, ⟨h5, hu, h1, h2⟩, ⟨h3.2.2.2.1, by decide, fun v hv => absurd hv (Nat.not_lt_zero v)⟩, fun v hv => absurd hv (Nat.not_lt_zero v), h9, fun k hk => absurd hk (Nat.not_lt_zero k)⟩, ⟨h3.2.2.1, by decide, fun c hc => absurd hc (Nat.not_lt_zero c), fun c _ _ => ⟨h3.2.2.2.2.2 _ _ (by omega) (by omega), h3.2.2.2.2.2 _ _ (by omega) (by omega)⟩, .inl ⟨rfl, h3.2.1⟩⟩, h3.2.2.2.2.1, by decide, fun l hl => absurd hl (Nat.not_lt_zero l)⟩
theorem st_43 {x rn : Nat} (hs : cSs S) (hp : cPs G) (hx : x ≤ 3000) (hq : 82 < q) (qs : S q = (1, 3, 14)) (h3 : G 72 3 = (q : Int)) (hr : G q 8 = (rn : Int)) (k2 : G 68 x = sp) (k3 : G 72 1 = (x : Int)) : c43 f 72 (S, G, m) = if rn = 24 then some (.inl 0, cWr S G m sp) else c43_30 f 72 sp (S, G, m) := by
  by_cases c : rn = 24
  · rw [if_pos c]
    have hr' : G q 8 = 24 := by rw [hr, c]; rfl
    unfold c43
    simp (disch := omega) only [cq_gi, cq_gr, cq_a, cq_s, cq_p, cq_pr, cq_is, cq_ar, cq_ab, cq_ln, xq_nz, Option.bind_some, xup2_n, xup2_s, Int.toNat_natCast, Int.reduceToNat, if_pos, if_neg, true_and, and_true, and_self, eq_self, if_true, reduceIte, not_true_eq_false, not_false_eq_true, or_true, true_or, s72 hs, s65 hs, s68 hs, p72_0 hp, p65_4 hp, k2, k3, qs, h3, hr', k_36 hs, cth]
  · rw [if_neg c]
    unfold c43
    simp (disch := omega) only [cq_gi, cq_gr, cq_a, cq_s, cq_p, cq_pr, cq_is, cq_ar, cq_ab, cq_ln, xq_nz, Option.bind_some, xup2_n, xup2_s, Int.toNat_natCast, Int.reduceToNat, if_pos, if_neg, true_and, and_true, and_self, eq_self, if_true, reduceIte, not_true_eq_false, not_false_eq_true, or_true, true_or, s72 hs, s65 hs, s68 hs, p72_0 hp, p65_4 hp, k2, k3, qs, h3, hr]
theorem st_43_30 {T : xT_} (hs : cSs S) (e35 : c35 f 72 (S, G, m) = some T) : c43_30 f 72 sp (S, G, m) = c43_30t f 72 sp T := by
  rw [c43_30t_e]
  simp (disch := omega) only [cq_gi, cq_gr, cq_a, cq_s, cq_p, cq_pr, cq_is, cq_ar, cq_ab, cq_ln, xq_nz, Option.bind_some, xup2_n, xup2_s, Int.toNat_natCast, Int.reduceToNat, if_pos, if_neg, true_and, and_true, and_self, eq_self, if_true, reduceIte, not_true_eq_false, not_false_eq_true, or_true, true_or, s72 hs, e35]
theorem st_43_30t (hs : cSs S) (u2 : 278 < u) (us : S u = (1, 6, 20)) (u1 : G 72 5 = (u : Int)) (p1 : c47 f 72 (S, xup2 G u 1 sp, m) = some (.inr v, (S, G1, m))) : c43_30t f 72 sp (S, G, m) = ((c48 f 72 v sp (S, G1, m)).bind fun R => c43_30u f 72 sp u R) := by
  rw [c43_30u_e]
  simp (disch := omega) only [cq_gi, cq_gr, cq_a, cq_s, cq_p, cq_pr, cq_is, cq_ar, cq_ab, cq_ln, xq_nz, Option.bind_some, xup2_n, xup2_s, Int.toNat_natCast, Int.reduceToNat, if_pos, if_neg, true_and, and_true, and_self, eq_self, if_true, reduceIte, not_true_eq_false, not_false_eq_true, or_true, true_or, s72 hs, us, u1, p1, cth]
theorem st_43_30w {T : xT_} (hs : cSs S) (u2 : 278 < u) (us : S u = (1, 6, 20)) (u1 : G 72 5 = (u : Int)) (p1 : c47 f 72 (S, xup2 G u 1 sp, m) = some (.inl 0, T)) : c43_30t f 72 sp (S, G, m) = some (.inl 0, T) := by
  rw [c43_30u_e]
  simp (disch := omega) only [cq_gi, cq_gr, cq_a, cq_s, cq_p, cq_pr, cq_is, cq_ar, cq_ab, cq_ln, xq_nz, Option.bind_some, xup2_n, xup2_s, Int.toNat_natCast, Int.reduceToNat, if_pos, if_neg, true_and, and_true, and_self, eq_self, if_true, reduceIte, not_true_eq_false, not_false_eq_true, or_true, true_or, s72 hs, us, u1, p1, cth]
theorem st_43_30u {R : (Nat ⊕ Unit) × xT_} (hs : cSs S) (us : S u = (1, 6, 20)) (a1 : c38 f 72 40 (S, xup2 G u 0 p, m) = some R) : c43_30u f 72 sp u (.inr p, (S, G, m)) = cth R (fun _ => c43_64 f f 72 sp R.2) := by
  unfold c43_30u
  simp (disch := omega) only [cq_gi, cq_gr, cq_a, cq_s, cq_p, cq_pr, cq_is, cq_ar, cq_ab, cq_ln, xq_nz, Option.bind_some, xup2_n, xup2_s, Int.toNat_natCast, Int.reduceToNat, if_pos, if_neg, true_and, and_true, and_self, eq_self, if_true, reduceIte, not_true_eq_false, not_false_eq_true, or_true, true_or, s72 hs, us, a1, cth]
theorem xFn.it {tell : Bool} (hx : xFn tell q G G') (hqu : q + 10 < u) (hu : 278 < u) (h : cIt G u K g I) : cIt G' u K g I := h.rule (fun j _ _ => hx.u8 hqu hu u j (by omega)) (fun a j _ _ => hx.u8 hqu hu a j (by omega))
theorem cIt.h0 {k : Nat} (hk : k < 2) (h : cIt G u K g I) : cIt (xup2 G u k v) u K g I := h.rule (fun j _ _ => xup2_n (by omega)) (fun a j _ _ => xup2_n (by omega))
theorem cPr0.ru {k : Nat} {tell : Bool} (h : cPr0 S G q tell L) (hqu : q + 10 < u) (hu : 278 < u) : cPr0 S (xup2 G u k v) q tell L := h.ge (xup2_n (by omega)) (xup2_n (by omega)) (fun j _ _ _ => xup2_n (by omega)) (fun j => xup2_n (by omega))
/-- what the HEAD's NAME leaves -/
def xFh (q u : Nat) (G G' : xG_) : Prop := ∀ a j, ¬ (a = 72 ∧ (j = 1 ∨ j = 2)) → ¬ (a = q ∧ j = 1) → a ≠ q + 1 → ¬ (a = u ∧ j < 2) → G' a j = G a j
/-- the NAME of the HEAD, and its bracket -/
theorem k_43h (hf : 20 < f) (h : cXr S G B n t N w u V K i) (hr : cPr0 S G q true L) (hqu : q + 10 < u) (hI : cIt G u K g I) :
    pok (pbind (pPred t L i) fun p => pbind (pNeed t 40 p.2.2) fun j => .inr (p.1, p.2.1, j)) (fun x => ∃ G', c43_30t f 72 (kS t i : Int) (S, G, m) = some (.inl 0, cWr S G' m (x : Int)) ∧ xFh q u G G')
      (fun p => ∃ G', c43_30t f 72 (kS t i : Int) (S, G, m) = c43_64 f f 72 (kS t i : Int) (S, G', m) ∧ xFh q u G G' ∧ p.2.2 = i + 2 ∧ cXr S G' B n t N w u V K p.2.2 ∧ cPr0 S G' q true p.2.1 ∧ (∃ p' : Nat, p.1 = p' ∧ p' < 16) ∧ cIt G' u K g I ∧ G' u 0 = p.1 ∧ G' u 1 = (kS t i : Int)) := by
  have hs := h.1.1
  obtain ⟨u1, u2, ⟨us, _⟩, _⟩ := h.2.2.2.1
  have h1 : cXr S (xup2 G u 1 (kS t i : Int)) B n t N w u V K i := h.st1 u2 (by omega) (by omega)
  have hr1 := hr.ru (k := 1) (v := (kS t i : Int)) hqu u2
  have hq := hr.2.2.1 rfl
  have pp := k_pred (m := m) (tell := true) hf h1.1 h1.2.1 hr1
  rw [if_pos rfl] at pp
  have fa : xFh q u G (xup2 G u 1 (kS t i : Int)) := fun a j z1 z2 z3 z4 => xup2_n (fun y => z4 ⟨y.1, by omega⟩)
  have fb : ∀ {b : Bool} {A A' : xG_}, xFn b q A A' → xFh q u A A' := fun hx a j z1 z2 z3 z4 => hx a j (fun y => z1 ⟨y.1, .inl y.2⟩) (fun y => by rcases y.2 with q | q; exact z2 q; exact z3 q)
  have ft : ∀ {A A' A'' : xG_}, xFh q u A A' → xFh q u A' A'' → xFh q u A A'' := fun hx hx' a j z1 z2 z3 z4 => by rw [hx' a j z1 z2 z3 z4, hx a j z1 z2 z3 z4]
  cases hX : pPred t L i with
  | inl x =>
    rw [hX] at pp
    rcases pp with p1 | ⟨v, G1, p1, p2, p3⟩
    · exact ⟨_, st_43_30w hs u2 us u1 p1, fa⟩
    · exact ⟨G1, by rw [st_43_30t hs u2 us u1 p1, p2]; rfl, ft fa (fb p3)⟩
  | inr p =>
    rw [hX] at pp
    obtain ⟨v, G1, G2, p1, p2, p3, p4, p5, p6, p7⟩ := pp
    have h2 := h1.fn p3 hr.2.2.1 hqu p6 p5
    have h3 : cXr S (xup2 G2 u 0 p.1) B n t N w u V K (i + 1) := h2.st1 u2 (by omega) (by omega)
    have hr3 := (hr1.fn p3 p7).ru (k := 0) (v := p.1) hqu u2
    have hI3 := cIt.h0 (v := p.1) (k := 0) (by decide) (p3.it hqu u2 (cIt.h0 (v := (kS t i : Int)) (k := 1) (by decide) hI))
    have f3 : xFh q u G (xup2 G2 u 0 p.1) := ft (ft fa (fb p3)) (fun a j z1 z2 z3 z4 => xup2_n (fun y => z4 ⟨y.1, by omega⟩))
    have p38 := k_38 (f := f) (m := m) (c := 40) (by decide) h3.1 h3.2.1
    have e0 : c43_30t f 72 (kS t i : Int) (S, G, m) = c43_30u f 72 (kS t i : Int) u (.inr p.1, (S, G2, m)) := by rw [st_43_30t hs u2 us u1 p1, p2]; rfl
    have g0 : xup2 G2 u 0 p.1 u 0 = p.1 := xup2_s _ _ _ _
    have g1 : xup2 G2 u 0 p.1 u 1 = (kS t i : Int) := by rw [xup2_n (by omega), p3.u8 hqu u2 u 1 (by omega), xup2_s]
    show pok (pbind (pNeed t 40 p.2.2) fun j => .inr (p.1, p.2.1, j)) _ _
    rw [p4]
    cases hn : pNeed t 40 (i + 1) with
    | inl x =>
      rw [hn] at p38
      exact ⟨_, by rw [e0, st_43_30u hs us p38]; rfl, f3⟩
    | inr j =>
      rw [hn] at p38
      obtain ⟨a1, a2, a3, a4⟩ := p38
      have hlt := (h3.1.lt h3.2.1 (by omega)).1
      obtain ⟨b1, b2⟩ := h3.at a4 (by omega)
      refine ⟨_, by rw [e0, st_43_30u hs us a1]; rfl, ft f3 (fun a k z1 z2 z3 z4 => xup2_n (fun y => z1 ⟨y.1, .inl y.2⟩)), by show j = i + 2; omega, b2, hr3.at, ?_, hI3.at u2, ?_, ?_⟩
      · show ∃ p' : Nat, p.1 = p' ∧ p' < 16
        exact pPred_nat hX hr.2.2.2.2.2.2.2.1
      · rw [xup2_n (by omega)]; exact g0
      · rw [xup2_n (by omega)]; exact g1
end
