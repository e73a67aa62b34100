/-! THE CLASS: the SHEET: settle(), the CELLS are worked out -/
theorem cTt.lt {S S' : Nat → Nat × Nat × Nat} {G G' : xG_} {tp A : Nat} {X : fXs} {to : Nat → Nat} (h : cTt S G tp X to) (htp : tp < A) (hto : ∀ c, c < 72 → to c + 2 < A) (hS : ∀ a, a < A → S' a = S a) (hG : ∀ c, c < 72 → G' tp c = G tp c) (hF : ∀ c, c < 72 → 226 < to c → ∀ a j, to c ≤ a → a ≤ to c + 2 → G' a j = G a j) : cTt S' G' tp X to := by
  obtain ⟨h1, h2, h3⟩ := h
  refine ⟨by rw [hS _ htp]; exact h1, h2, fun c hc => ?_⟩
  obtain ⟨a1, a2⟩ := h3 c hc
  have hb := hto c hc
  refine ⟨by rw [hG c hc]; exact a1, ?_⟩
  rcases a2 with q | ⟨q1, e, q2, q3⟩
  · exact .inl q
  · exact .inr ⟨q1, e, q2, q3.ge (fun a z1 z2 => hS a (by omega)) (fun a j z1 z2 => hF c hc q1 a j z1 z2)⟩
section
variable {f ah be ln tp ac A sl q rp : Nat} {S : Nat → Nat × Nat × Nat} {G : xG_} {m : Nat × Nat} {s : pPg} {X : fXs} {to xr cr : Nat → Nat} {M : Nat → List pRw} {fr u : Int} {ch n : Nat} {C : fCs} {W : Nat → Int} {H : Nat → Prop}
/-- the end of the loop -/
theorem sw_99e {fu : Nat} {ci : Int} (hb : S be = (1, 2, 8)) (h5 : G be 5 = (n : Int)) (h6 : G be 6 = fr) : c99_27 f (fu + 1) 216 ah be ln ci u ((72 : Nat) : Int) (S, G, m) = if 0 < n ∨ (¬ u = 0 ∧ (¬ ci = 0 ∨ fr = 1)) then c99_140 f 216 ah be ln ci (S, G, m) else some (S, G, m) := by
  show c99_27b (c99_27 f fu) f 216 _ _ _ _ _ _ _ = _
  unfold c99_27b c99_172
  rw [if_pos (by decide), o_gi hb, Option.bind_some, h5]
  by_cases c1 : 0 < n
  · rw [if_pos (show (0 : Int) < (n : Int) by omega), if_pos (show 0 < n ∨ (¬ u = 0 ∧ (¬ ci = 0 ∨ fr = 1)) from .inl c1)]
  · rw [if_neg (show ¬ (0 : Int) < (n : Int) by omega)]
    by_cases c2 : u = 0
    · rw [if_pos c2, if_neg (show ¬ (0 < n ∨ (¬ u = 0 ∧ (¬ ci = 0 ∨ fr = 1))) from fun z => by rcases z with z | z; exact c1 z; exact z.1 c2)]
    · rw [if_neg c2]
      by_cases c3 : ci = 0
      · rw [if_neg (fun z => z c3), o_gi hb, Option.bind_some, h6]
        by_cases c4 : fr = 1
        · rw [if_neg (fun z => z c4), if_pos (show 0 < n ∨ (¬ u = 0 ∧ (¬ ci = 0 ∨ fr = 1)) from .inr ⟨c2, .inr c4⟩)]
        · rw [if_pos c4, if_neg (show ¬ (0 < n ∨ (¬ u = 0 ∧ (¬ ci = 0 ∨ fr = 1))) from fun z => by
            rcases z with z | ⟨_, z | z⟩
            · exact c1 z
            · exact z c3
            · exact c4 z)]
      · rw [if_pos c3, if_pos (show 0 < n ∨ (¬ u = 0 ∧ (¬ ci = 0 ∨ fr = 1)) from .inr ⟨c2, .inl c3⟩)]
theorem sw_140 {cc : Nat} {ci : Int} {S1 : Nat → Nat × Nat × Nat} {G1 G4 G5 : xG_} {m1 : Nat × Nat} {R : xT_} (hs : cSs S1) (hb : S1 be = (1, 2, 8)) (hbc : be ≠ 216) (ea : cq_na 4 72 (S, G, m) = some (cc, (S1, G1, m1))) (e1 : c100 f 216 (S1, xup2 (xup2 G1 be 3 (cc : Int)) 216 1 (cc : Int), m1) = some (S1, G4, m1)) (e2 : c102 f 216 (S1, G4, m1) = some (S1, G5, m1)) (e3 : c103 f 216 ah ln ci (S1, G5, m1) = some R) : c99_140 f 216 ah be ln ci (S, G, m) = some R := by
  have i1 : ∀ G' : xG_, cq_is 7 5 216 (S1, G', m1) = some () := fun G' => if_pos (s216 hs)
  unfold c99_140 c99_172
  rw [ea, Option.bind_some, o_pr hb, Option.bind_some, o_gr hb (xup2_s _ _ _ _), Option.bind_some, o_pr (s216 hs), Option.bind_some, i1, Option.bind_some, e1, Option.bind_some, i1, Option.bind_some, e2, Option.bind_some, i1, Option.bind_some, e3, Option.bind_some]
/-- the CELLS are worked out anew -/
theorem k_99z {nq : Nat} (hf : 700 < f) (hch : ch < 2147483648) (hs : cSs S) (hp : cPs G) (hA : 278 < A) (hb : S be = (1, 2, 8)) (hbA : 278 < be ∧ be < A) (h0 : G 216 0 = (be : Int)) (hM : cMr S G A be q rp s xr cr M) (hP : cPgm S G q nq s) (hnq : nq ≤ be ∧ 226 < q ∧ (q + 1 < 243 ∨ 278 < q)) (hok : qOk s) (hoM : okM s M) (hl : ∀ p, p < s.1.length → (M p).length ≤ 100) (hrp : 278 < rp ∧ rp < A ∧ rp ≠ be) (hxr : ∀ p, p < s.1.length → (xr p + 2 < 216 ∨ 278 < xr p) ∧ (be < xr p ∨ xr p + 2 < be))
    (h2 : G be 2 = (tp : Int)) (hT : cTt S G tp X to) (htp : tp < A ∧ tp ≠ be ∧ (tp < 243 ∨ 278 < tp)) (hto : ∀ c, c < 72 → to c + 2 < A ∧ (be < to c ∨ to c + 2 < be) ∧ (to c = 0 ∨ 278 < to c)) (hX : okX X) (h6 : G be 6 = fr)
    (ls : lnSt S ln) (lp : lnPt G ln) (hln : 242 < ln ∧ ln + 8 < 279) (ha : S ah = (1, 2, 8)) (haA : 226 < ah ∧ ah < A ∧ ah ≠ be) (h3 : G ah 3 = (ac : Int)) (hac : S ac = (2, 4, 72)) (hacA : 226 < ac ∧ ac < A ∧ ac ≠ be) (hC : okC C) (gC : ∀ x, x < 72 → G ac x = eC (C x)) (hv : ∀ y, y < 72 → 0 ≤ G (ln + 3) y ∧ G (ln + 3) y ≤ 100000) (ht : ∀ y, ¬ G (ln + 7) y = 0 ↔ W y ≠ -1) (hH : ∀ p, p < s.1.length → (ch.testBit p = true ↔ H p)) :
    ∃ S' G', c99_140 f 216 ah be ln (ch : Int) (S, G, (A, sl)) = some (S', G', (A + 1, sl + 72)) ∧ (∀ a, a < A → S' a = S a) ∧ S' A = (2, 4, 72) ∧ (∀ a j, a < A → ¬ (a = be ∧ j = 3) → ¬ (a = 216 ∧ j = 1) → ¬ (217 ≤ a ∧ a ≤ 219) → a ≠ ln + 3 → G' a j = G a j) ∧ G' be 3 = (A : Int) ∧ (∀ x, x < 72 → G' A x = eC (fSh X s M x)) ∧ ∀ c, c < 72 → (qCw X s (fr = 1) W C (fSh X s M) H c → G' (ln + 3) c = G (ln + 3) c + 1) ∧ (¬ qCw X s (fr = 1) W C (fSh X s M) H c → G' (ln + 3) c = G (ln + 3) c) := by
  have ea : cq_na 4 72 (S, G, (A, sl)) = some (A, (xup1 S A (2, 4, 72), xz1 G A (fun _ => 0), A + 1, sl + 72)) := cq_na_ok (by decide) (by decide) (by decide)
  have zS : ∀ a, a < A → xup1 S A (2, 4, 72) a = S a := fun a h => xup1_n (by omega)
  have sA : xup1 S A (2, 4, 72) A = (2, 4, 72) := xup1_s _ _ _
  generalize xup1 S A (2, 4, 72) = S1 at ea zS sA
  have hs1 : cSs S1 := fun k hk => by rw [zS _ (by omega)]; exact hs k hk
  have hb1 : S1 be = (1, 2, 8) := by rw [zS _ hbA.2]; exact hb
  -- the state before findRings()
  have z3 : ∀ a j, a < A → ¬ (a = be ∧ j = 3) → ¬ (a = 216 ∧ j = 1) → xup2 (xup2 (xz1 G A (fun _ => 0)) be 3 (A : Int)) 216 1 (A : Int) a j = G a j := fun a j y1 y2 y3 => by rw [xup2_n y3, xup2_n y2, xz1_n _ (by omega)]
  have w1 : xup2 (xup2 (xz1 G A (fun _ => 0)) be 3 (A : Int)) 216 1 (A : Int) 216 1 = (A : Int) := xup2_s _ _ _ _
  have w2 : xup2 (xup2 (xz1 G A (fun _ => 0)) be 3 (A : Int)) 216 1 (A : Int) be 3 = (A : Int) := by rw [xup2_n (by omega), xup2_s]
  generalize hG3 : xup2 (xup2 (xz1 G A (fun _ => 0)) be 3 (A : Int)) 216 1 (A : Int) = G3 at z3 w1 w2
  have hp3 : cPs G3 := hp.ge (fun a j hz => z3 a j (by
    rcases hz with z | z | z | z | z | z | z | ⟨z, z1, z2, k, z3⟩ | z | z | z | ⟨k, z1, z2, z3⟩ <;> omega) (by
    rcases hz with z | z | z | z | z | z | z | ⟨z, z1, z2, k, z3⟩ | z | z | z | ⟨k, z1, z2, z3⟩ <;> omega) (by
    rcases hz with z | z | z | z | z | z | z | ⟨z, z1, z2, k, z3⟩ | z | z | z | ⟨k, z1, z2, z3⟩ <;> omega))
  have hT3 : cTt S1 G3 tp X to := hT.lt htp.1 (fun c hc => (hto c hc).1) zS (fun c hc => z3 _ _ htp.1 (by omega) (by have := hT.2.1; omega)) (fun c hc h226 a j y1 y2 => by
    have := hto c hc
    exact z3 _ _ (by omega) (by omega) (by omega))
  have h03 : G3 216 0 = (be : Int) := by rw [z3 _ _ (by omega) (by omega) (by omega)]; exact h0
  have h23 : G3 be 2 = (tp : Int) := by rw [z3 _ _ hbA.2 (by omega) (by omega)]; exact h2
  obtain ⟨G4, a1, a2, a3⟩ := k_100 (f := f) (m := (A + 1, sl + 72)) (by omega) hs1 hp3 hb1 (by omega) h03 h23 hT3
  have z4 : ∀ a j, a < A → ¬ (a = be ∧ j = 3) → ¬ (a = 216 ∧ j = 1) → ¬ (217 ≤ a ∧ a ≤ 219) → G4 a j = G a j := fun a j y1 y2 y3 y4 => by rw [a2 _ _ (by omega) (by omega), z3 _ _ y1 y2 y3]
  have hp4 := a2.ps hp3
  have hT4 : cTt S1 G4 tp X to := hT3.ge (fun _ _ => rfl) (fun a j y => a2 _ _ (by omega) (by omega))
  have hM4 : cMr S1 G4 A be q rp s xr cr M := hM.ge2 (Nat.le_refl _) (fun a hz => zS a (by
    rcases hz with z | z | ⟨p, hp, y1, y2⟩
    · omega
    · omega
    · have := (hM.2.2.2.2 p hp).2.1; omega)) (fun a j hz => by
    rcases hz with ⟨z, zj⟩ | z | ⟨p, hp, y1, y2⟩
    · exact z4 a j (by omega) (by omega) (by omega) (by omega)
    · exact z4 a j (by omega) (by omega) (by omega) (by omega)
    · have u1 := (hM.2.2.2.2 p hp).2.1
      have u2 := hxr p hp
      exact z4 a j (by omega) (by omega) (by omega) (by omega))
  have hP4 : cPgm S1 G4 q A s := hP.ge (by omega) (fun a y => zS a (by omega)) (fun a j y1 y2 => z4 a j (by omega) (by omega) (by omega) (by omega))
  have hW : wkS S1 G4 A be A q rp tp s xr cr M X to 0 := ⟨⟨hs1, hp4, ⟨by rw [a2 _ _ (by omega) (by omega)]; exact h03, by rw [a2 _ _ (by omega) (by omega)]; exact w1⟩, ⟨sA, fun x _ hx => by
      have hx' : (0 : Nat).testBit x = true := hx
      rw [Nat.zero_testBit] at hx'
      cases hx'⟩, hM4, hP4, hok, fSh_ok hX hoM (fun p hp => Nat.le_trans (hl p hp) (by decide)), hoM, hl, ⟨by omega, by omega, hnq.2.1, by omega⟩, fun p hp => by have := (hxr p hp).1; omega⟩, a3, by rw [a2 _ _ (by omega) (by omega)]; exact h23, hT4, Nat.le_refl _, hbA.2, hrp.2.1, hA, htp.1, fun c hc => (hto c hc).1⟩
  obtain ⟨G5, b1, b2, b3⟩ := k_102 (f := f) (m := (A + 1, sl + 72)) hf hX hW
  have z5 : ∀ a j, a < A → ¬ (a = be ∧ j = 3) → ¬ (a = 216 ∧ j = 1) → ¬ (217 ≤ a ∧ a ≤ 219) → G5 a j = G a j := fun a j y1 y2 y3 y4 => by rw [b2 _ _ (by omega) (by omega), z4 _ _ y1 y2 y3 y4]
  obtain ⟨l0, _, _, l3, _, _, _, l7, _⟩ := ls
  obtain ⟨_, _, p6, _, _, _, p12, _⟩ := lp
  have hT5 : cTt S1 G5 tp X to := hT4.lt htp.1 (fun c hc => (hto c hc).1) (fun _ _ => rfl) (fun c hc => b2 _ _ (by omega) (by have := hT.2.1; omega)) (fun c hc h226 a j y1 y2 => by
    have := hto c hc
    exact b2 _ _ (by omega) (by omega))
  have hq10 : q + 10 < nq := hP.2.2.2.2.2.2.2.2
  have hCw : cCw S1 G5 be q ln tp s X to fr := by
    refine ⟨⟨hs1, by rw [b2 _ _ (by omega) (by omega), a2 _ _ (by omega) (by omega)]; exact h03, hb1, ?_, hP4.1, ?_, ?_, hok⟩, ?_, hT5, ?_, ⟨by rw [zS _ (by omega)]; exact l0, by rw [zS _ (by omega)]; exact l3, by rw [zS _ (by omega)]; exact l7, by rw [z5 _ _ (by omega) (by omega) (by omega) (by omega)]; exact p6, by rw [z5 _ _ (by omega) (by omega) (by omega) (by omega)]; exact p12⟩, by omega, by omega, by omega, by omega, by omega, fun c hc => by have := hto c hc; omega⟩
    · rw [z5 _ _ (by omega) (by omega) (by omega) (by omega)]; exact hM.2.1
    · exact hP.2.1.ge (fun j _ _ _ => z5 _ _ (by omega) (by omega) (by omega) (by omega))
    · exact ⟨by rw [z5 _ _ (by omega) (by omega) (by omega) (by omega)]; exact hP.2.2.1.1, hP.2.2.1.2.1, fun k hk => by rw [z5 _ _ (by omega) (by omega) (by omega) (by omega)]; exact hP.2.2.1.2.2 k hk⟩
    · rw [z5 _ _ (by omega) (by omega) (by omega) (by omega)]; exact h2
    · rw [z5 _ _ (by omega) (by omega) (by omega) (by omega)]; exact h6
  obtain ⟨G6, c1, c2, c3⟩ := k_103 (f := f) (m := (A + 1, sl + 72)) (ch := ch) (ah := ah) (ac := ac) (cc := A) (C := C) (D := fSh X s M) (W := W) (H := H) (by omega) hch hCw (by rw [b2 _ _ (by omega) (by omega), a2 _ _ (by omega) (by omega)]; exact w1) sA (by rw [zS _ haA.2.1]; exact ha) (by rw [z5 _ _ haA.2.1 (by omega) (by omega) (by omega)]; exact h3) (by rw [zS _ hacA.2.1]; exact hac) hC (fSh_ok hX hoM (fun p hp => Nat.le_trans (hl p hp) (by decide))) b3 (fun x hx => by rw [z5 _ _ hacA.2.1 (by omega) (by omega) (by omega)]; exact gC x hx) (fun y hy => by rw [z5 _ _ (by omega) (by omega) (by omega) (by omega)]; exact hv y hy) (fun y => by rw [z5 _ _ (by omega) (by omega) (by omega) (by omega)]; exact ht y) hH
  refine ⟨S1, G6, sw_140 hs1 hb1 (by omega) ea (by rw [hG3]; exact a1) b1 c1, zS, sA, fun a j y1 y2 y3 y4 y5 => by rw [c2 _ _ y5, z5 _ _ y1 y2 y3 y4], ?_, fun x hx => by rw [c2 _ _ (by omega)]; exact b3 x hx, fun c hc => ?_⟩
  · rw [c2 _ _ (by omega), b2 _ _ (by omega) (by omega), a2 _ _ (by omega) (by omega)]; exact w2
  · have := c3 c hc
    rw [z5 (ln + 3) c (by omega) (by omega) (by omega) (by omega)] at this
    exact this
end
