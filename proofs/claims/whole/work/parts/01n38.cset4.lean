section
/-! THE CLASS: the SHEET: settle(), the CELLS are worked out -/
theorem cTt.lt {S S' : Nat → Nat × Nat × Nat} {G G' : xG_} {tp A : Nat} {X : fXs} {to : Nat → Nat} (h : cTt S G tp X to) (htp : tp < A) (hto : ∀ c, c < 72 → to c + 2 < A) (hS : ∀ a, a < A → S' a = S a) (hG : ∀ c, c < 72 → G' tp c = G tp c) (hF : ∀ c, c < 72 → 226 < to c → ∀ a j, to c ≤ a → a ≤ to c + 2 → G' a j = G a j) : cTt S' G' tp X to := by
  obtain ⟨h1, h2, h3⟩ := h
  refine ⟨by rw [hS _ htp]; exact h1, h2, fun c hc => ?_⟩
  obtain ⟨a1, a2⟩ := h3 c hc
  have hb := hto c hc
  refine ⟨by rw [hG c hc]; exact a1, ?_⟩
  rcases a2 with q | ⟨q1, e, q2, q3⟩
  · exact .inl q
  · exact .inr ⟨q1, e, q2, q3.ge (fun a z1 z2 => hS a (by omega)) (fun a j z1 z2 => hF c hc q1 a j z1 z2)⟩
section
variable {f ah be ln tp ac A sl q rp : Nat} {S : Nat → Nat × Nat × Nat} {G : xG_} {m : Nat × Nat} {s : pPg} {X : fXs} {to xr cr : Nat → Nat} {M : Nat → List pRw} {fr u : Int} {ch n : Nat} {C : fCs} {W : Nat → Int} {H : Nat → Prop}
/-- the end of the loop -/
theorem sw_99e {fu : Nat} {ci : Int} (hb : S be = (1, 2, 8)) (h5 : G be 5 = (n : Int)) (h6 : G be 6 = fr) : c99_27 f (fu + 1) 216 ah be ln ci u ((72 : Nat) : Int) (S, G, m) = if 0 < n ∨ (¬ u = 0 ∧ (¬ ci = 0 ∨ fr = 1)) then c99_140 f 216 ah be ln ci (S, G, m) else some (S, G, m) := by
  show c99_27b (c99_27 f fu) f 216 _ _ _ _ _ _ _ = _
  unfold c99_27b c99_172
  rw [if_pos (by decide), o_gi hb, Option.bind_some, h5]
  by_cases c1 : 0 < n
  · rw [if_pos (show (0 : Int) < (n : Int) by omega), if_pos (show 0 < n ∨ (¬ u = 0 ∧ (¬ ci = 0 ∨ fr = 1)) from .inl c1)]
  · rw [if_neg (show ¬ (0 : Int) < (n : Int) by omega)]
    by_cases c2 : u = 0
    · rw [if_pos c2, if_neg (show ¬ (0 < n ∨ (¬ u = 0 ∧ (¬ ci = 0 ∨ fr = 1))) from fun z => by rcases z with z | z; exact c1 z; exact z.1 c2)]
    · rw [if_neg c2]
      by_cases c3 : ci = 0
      · rw [if_neg (fun z => z c3), o_gi hb, Option.bind_some, h6]
        by_cases c4 : fr = 1
        · rw [if_neg (fun z => z c4), if_pos (show 0 < n ∨ (¬ u = 0 ∧ (¬ ci = 0 ∨ fr = 1)) from .inr ⟨c2, .inr c4⟩)]
        · rw [if_pos c4, if_neg (show ¬ (0 < n ∨ (¬ u = 0 ∧ (¬ ci = 0 ∨ fr = 1))) from fun z => by
            rcases z with z | ⟨_, z | z⟩
            · exact c1 z
            · exact z c3
            · exact c4 z)]
      · rw [if_pos c3, if_pos (show 0 < n ∨ (¬ u = 0 ∧ (¬ ci = 0 ∨ fr = 1)) from .inr ⟨c2, .inl c3⟩)]
theorem sw_140 {cc : Nat} {ci : Int} {S1 : Nat → Nat × Nat × Nat} {G1 G4 G5 : xG_} {m1 : Nat × Nat} {R : xT_} (hs : cSs S1) (hb : S1 be = (1, 2, 8)) (hbc : be ≠ 216) (ea : cq_na 4 72 (S, G, m) = some (cc, (S1, G1, m1))) (e1 : c100 f 216 (S1, xup2 (xup2 G1 be 3 (cc : Int)) 216 1 (cc : Int), m1) = some (S1, G4, m1)) (e2 : c102 f 216 (S1, G4, m1) = some (S1, G5, m1)) (e3 : c103 f 216 ah ln ci (S1, G5, m1) = some R) : c99_140 f 216 ah be ln ci (S, G, m) = some R := by
  have i1 : ∀ G' : xG_, cq_is 7 5 216 (S1, G', m1) = some () := fun G' => if_pos (s216 hs)
  unfold c99_140 c99_172
  rw [ea, Option.bind_some, o_pr hb, Option.bind_some, o_gr hb (xup2_s _ _ _ _), Option.bind_some, o_pr (s216 hs), Option.bind_some, i1, Option.bind_some, e1, Option.bind_some, i1, Option.bind_some, e2, Option.bind_some, i1, Option.bind_some, e3, Option.bind_some]
/-- the CELLS are worked out anew -/
theorem k_99z {nq : Nat} (hf : 700 < f) (hch : ch < 2147483648) (hs : cSs S) (hp : cPs G) (hA : 278 < A) (hb : S be = (1, 2, 8)) (hbA : 278 < be ∧ be < A) (h0 : G 216 0 = (be : Int)) (hM : cMr S G A be q rp s xr cr M) (hP : cPgm S G q nq s) (hnq : nq ≤ be ∧ 226 < q ∧ (q + 1 < 243 ∨ 278 < q)) (hok : qOk s) (hoM : okM s M) (hl : ∀ p, p < s.1.length → (M p).length ≤ 100) (hrp : 278 < rp ∧ rp < A ∧ rp ≠ be) (hxr : ∀ p, p < s.1.length → (xr p + 2 < 216 ∨ 278 < xr p) ∧ (be < xr p ∨ xr p + 2 < be))
    (h2 : G be 2 = (tp : Int)) (hT : cTt S G tp X to) (htp : tp < A ∧ tp ≠ be ∧ (tp < 243 ∨ 278 < tp)) (hto : ∀ c, c < 72 → to c + 2 < A ∧ (be < to c ∨ to c + 2 < be) ∧ (to c = 0 ∨ 278 < to c)) (hX : okX X) (h6 : G be 6 = fr)
    (ls : lnSt S ln) (lp : lnPt G ln) (hln : 242 < ln ∧ ln + 8 < 279) (ha : S ah = (1, 2, 8)) (haA : 226 < ah ∧ ah < A ∧ ah ≠ be) (h3 : G ah 3 = (ac : Int)) (hac : S ac = (2, 4, 72)) (hacA : 226 < ac ∧ ac < A ∧ ac ≠ be) (hC : okC C) (gC : ∀ x, x < 72 → G ac x = eC (C x)) (hv : ∀ y, y < 72 → 0 ≤ G (ln + 3) y ∧ G (ln + 3) y ≤ 100000) (ht : ∀ y, ¬ G (ln + 7) y = 0 ↔ W y ≠ -1) (hH : ∀ p, p < s.1.length → (ch.testBit p = true ↔ H p)) :
    ∃ S' G', c99_140 f 216 ah be ln (ch : Int) (S, G, (A, sl)) = some (S', G', (A + 1, sl + 72)) ∧ (∀ a, a < A → S' a = S a) ∧ S' A = (2, 4, 72) ∧ (∀ a j, a < A → ¬ (a = be ∧ j = 3) → ¬ (a = 216 ∧ j = 1) → ¬ (217 ≤ a ∧ a ≤ 219) → a ≠ ln + 3 → G' a j = G a j) ∧ G' be 3 = (A : Int) ∧ (∀ x, x < 72 → G' A x = eC (fSh X s M x)) ∧ ∀ c, c < 72 → (qCw X s (fr = 1) W C (fSh X s M) H c → G' (ln + 3) c = G (ln + 3) c + 1) ∧ (¬ qCw X s (fr = 1) W C (fSh X s M) H c → G' (ln + 3) c = G (ln + 3) c) := by
  have ea : cq_na 4 72 (S, G, (A, sl)) = some (A, (xup1 S A (2, 4, 72), xz1 G A (fun _ => 0), A + 1, sl + 72)) := cq_na_ok (by decide) (by decide) (by decide)
  have zS : ∀ a, a < A → xup1 S A (2, 4, 72) a = S a := fun a h => xup1_n (by omega)
  have sA : xup1 S A (2, 4, 72) A = (2, 4, 72) := xup1_s _ _ _
  generalize xup1 S A (2, 4, 72) = S1 at ea zS sA
  have hs1 : cSs S1 := fun k hk => by rw [zS _ (by omega)]; exact hs k hk
  have hb1 : S1 be = (1, 2, 8) := by rw [zS _ hbA.2]; exact hb
  -- the state before findRings()
  have z3 : ∀ a j, a < A → ¬ (a = be ∧ j = 3) → ¬ (a = 216 ∧ j = 1) → xup2 (xup2 (xz1 G A (fun _ => 0)) be 3 (A : Int)) 216 1 (A : Int) a j = G a j := fun a j y1 y2 y3 => by rw [xup2_n y3, xup2_n y2, xz1_n _ (by omega)]
  have w1 : xup2 (xup2 (xz1 G A (fun _ => 0)) be 3 (A : Int)) 216 1 (A : Int) 216 1 = (A : Int) := xup2_s _ _ _ _
  have w2 : xup2 (xup2 (xz1 G A (fun _ => 0)) be 3 (A : Int)) 216 1 (A : Int) be 3 = (A : Int) := by rw [xup2_n (by omega), xup2_s]
  generalize hG3 : xup2 (xup2 (xz1 G A (fun _ => 0)) be 3 (A : Int)) 216 1 (A : Int) = G3 at z3 w1 w2
  have hp3 : cPs G3 := hp.ge (fun a j hz => z3 a j (by
    rcases hz with z | z | z | z | z | z | z | ⟨z, z1, z2, k, z3⟩ | z | z | z | ⟨k, z1, z2, z3⟩ <;> omega) (by
    rcases hz with z | z | z | z | z | z | z | ⟨z, z1, z2, k, z3⟩ | z | z | z | ⟨k, z1, z2, z3⟩ <;> omega) (by
    rcases hz with z | z | z | z | z | z | z | ⟨z, z1, z2, k, z3⟩ | z | z | z | ⟨k, z1, z2, z3⟩ <;> omega))
  have hT3 : cTt S1 G3 tp X to := hT.lt htp.1 (fun c hc => (hto c hc).1) zS (fun c hc => z3 _ _ htp.1 (by omega) (by have := hT.2.1; omega)) (fun c hc h226 a j y1 y2 => by
    have := hto c hc
    exact z3 _ _ (by omega) (by omega) (by omega))
  have h03 : G3 216 0 = (be : Int) := by rw [z3 _ _ (by omega) (by omega) (by omega)]; exact h0
  have h23 : G3 be 2 = (tp : Int) := by rw [z3 _ _ hbA.2 (by omega) (by omega)]; exact h2
  obtain ⟨G4, a1, a2, a3⟩ := k_100 (f := f) (m := (A + 1, sl + 72)) (by omega) hs1 hp3 hb1 (by omega) h03 h23 hT3
  have z4 : ∀ a j, a < A → ¬ (a = be ∧ j = 3) → ¬ (a = 216 ∧ j = 1) → ¬ (217 ≤ a ∧ a ≤ 219) → G4 a j = G a j := fun a j y1 y2 y3 y4 => by rw [a2 _ _ (by omega) (by omega), z3 _ _ y1 y2 y3]
  have hp4 := a2.ps hp3
  have hT4 : cTt S1 G4 tp X to := hT3.ge (fun _ _ => rfl) (fun a j y => a2 _ _ (by omega) (by omega))
  have hM4 : cMr S1 G4 A be q rp s xr cr M := hM.ge2 (Nat.le_refl _) (fun a hz => zS a (by
    rcases hz with z | z | ⟨p, hp, y1, y2⟩
    · omega
    · omega
    · have := (hM.2.2.2.2 p hp).2.1; omega)) (fun a j hz => by
    rcases hz with ⟨z, zj⟩ | z | ⟨p, hp, y1, y2⟩
    · exact z4 a j (by omega) (by omega) (by omega) (by omega)
    · exact z4 a j (by omega) (by omega) (by omega) (by omega)
    · have u1 := (hM.2.2.2.2 p hp).2.1
      have u2 := hxr p hp
      exact z4 a j (by omega) (by omega) (by omega) (by omega))
  have hP4 : cPgm S1 G4 q A s := hP.ge (by omega) (fun a y => zS a (by omega)) (fun a j y1 y2 => z4 a j (by omega) (by omega) (by omega) (by omega))
  have hW : wkS S1 G4 A be A q rp tp s xr cr M X to 0 := ⟨⟨hs1, hp4, ⟨by rw [a2 _ _ (by omega) (by omega)]; exact h03, by rw [a2 _ _ (by omega) (by omega)]; exact w1⟩, ⟨sA, fun x _ hx => by
      have hx' : (0 : Nat).testBit x = true := hx
      rw [Nat.zero_testBit] at hx'
      cases hx'⟩, hM4, hP4, hok, fSh_ok hX hoM (fun p hp => Nat.le_trans (hl p hp) (by decide)), hoM, hl, ⟨by omega, by omega, hnq.2.1, by omega⟩, fun p hp => by have := (hxr p hp).1; omega⟩, a3, by rw [a2 _ _ (by omega) (by omega)]; exact h23, hT4, Nat.le_refl _, hbA.2, hrp.2.1, hA, htp.1, fun c hc => (hto c hc).1⟩
  obtain ⟨G5, b1, b2, b3⟩ := k_102 (f := f) (m := (A + 1, sl + 72)) hf hX hW
  have z5 : ∀ a j, a < A → ¬ (a = be ∧ j = 3) → ¬ (a = 216 ∧ j = 1) → ¬ (217 ≤ a ∧ a ≤ 219) → G5 a j = G a j := fun a j y1 y2 y3 y4 => by rw [b2 _ _ (by omega) (by omega), z4 _ _ y1 y2 y3 y4]
  obtain ⟨l0, _, _, l3, _, _, _, l7, _⟩ := ls
  obtain ⟨_, _, p6, _, _, _, p12, _⟩ := lp
  have hT5 : cTt S1 G5 tp X to := hT4.lt htp.1 (fun c hc => (hto c hc).1) (fun _ _ => rfl) (fun c hc => b2 _ _ (by omega) (by have := hT.2.1; omega)) (fun c hc h226 a j y1 y2 => by
    have := hto c hc
    exact b2 _ _ (by omega) (by omega))
  have hq10 : q + 10 < nq := hP.2.2.2.2.2.2.2.2
  have hCw : cCw S1 G5 be q ln tp s X to fr := by
    refine ⟨⟨hs1, by rw [b2 _ _ (by omega) (by omega), a2 _ _ (by omega) (by omega)]; exact h03, hb1, ?_, hP4.1, ?_, ?_, hok⟩, ?_, hT5, ?_, ⟨by rw [zS _ (by omega)]; exact l0, by rw [zS _ (by omega)]; exact l3, by rw [zS _ (by omega)]; exact l7, by rw [z5 _ _ (by omega) (by omega) (by omega) (by omega)]; exact p6, by rw [z5 _ _ (by omega) (by omega) (by omega) (by omega)]; exact p12⟩, by omega, by omega, by omega, by omega, by omega, fun c hc => by have := hto c hc; omega⟩
    · rw [z5 _ _ (by omega) (by omega) (by omega) (by omega)]; exact hM.2.1
    · exact hP.2.1.ge (fun j _ _ _ => z5 _ _ (by omega) (by omega) (by omega) (by omega))
    · exact ⟨by rw [z5 _ _ (by omega) (by omega) (by omega) (by omega)]; exact hP.2.2.1.1, hP.2.2.1.2.1, fun k hk => by rw [z5 _ _ (by omega) (by omega) (by omega) (by omega)]; exact hP.2.2.1.2.2 k hk⟩
    · rw [z5 _ _ (by omega) (by omega) (by omega) (by omega)]; exact h2
    · rw [z5 _ _ (by omega) (by omega) (by omega) (by omega)]; exact h6
  obtain ⟨G6, c1, c2, c3⟩ := k_103 (f := f) (m := (A + 1, sl + 72)) (ch := ch) (ah := ah) (ac := ac) (cc := A) (C := C) (D := fSh X s M) (W := W) (H := H) (by omega) hch hCw (by rw [b2 _ _ (by omega) (by omega), a2 _ _ (by omega) (by omega)]; exact w1) sA (by rw [zS _ haA.2.1]; exact ha) (by rw [z5 _ _ haA.2.1 (by omega) (by omega) (by omega)]; exact h3) (by rw [zS _ hacA.2.1]; exact hac) hC (fSh_ok hX hoM (fun p hp => Nat.le_trans (hl p hp) (by decide))) b3 (fun x hx => by rw [z5 _ _ hacA.2.1 (by omega) (by omega) (by omega)]; exact gC x hx) (fun y hy => by rw [z5 _ _ (by omega) (by omega) (by omega) (by omega)]; exact hv y hy) (fun y => by rw [z5 _ _ (by omega) (by omega) (by omega) (by omega)]; exact ht y) hH
  refine ⟨S1, G6, sw_140 hs1 hb1 (by omega) ea (by rw [hG3]; exact a1) b1 c1, zS, sA, fun a j y1 y2 y3 y4 y5 => by rw [c2 _ _ y5, z5 _ _ y1 y2 y3 y4], ?_, fun x hx => by rw [c2 _ _ (by omega)]; exact b3 x hx, fun c hc => ?_⟩
  · rw [c2 _ _ (by omega), b2 _ _ (by omega) (by omega), a2 _ _ (by omega) (by omega)]; exact w2
  · have := c3 c hc
    rw [z5 (ln + 3) c (by omega) (by omega) (by omega) (by omega)] at this
    exact this
end
end
section
/-! THE CLASS: the SHEET: settle(), up to its end -/
section
variable {f ah be ln tp ac A sl : Nat} {S : Nat → Nat × Nat × Nat} {G : xG_} {m : Nat × Nat} {ch : Int}
/-- what settle() writes first -/
def sG9 (G : xG_) (be tp ac : Nat) : xG_ := xup2 (xup2 (xup2 G 216 0 (be : Int)) be 2 (tp : Int)) be 3 (ac : Int)
theorem sG9_n {a j : Nat} (h1 : ¬ (a = 216 ∧ j = 0)) (h2 : ¬ (a = be ∧ (j = 2 ∨ j = 3))) : sG9 G be tp ac a j = G a j := by
  unfold sG9
  rw [xup2_n (by omega), xup2_n (by omega), xup2_n (by omega)]
theorem sG9_s (hb : be ≠ 216) : sG9 G be tp ac 216 0 = (be : Int) ∧ sG9 G be tp ac be 2 = (tp : Int) ∧ sG9 G be tp ac be 3 = (ac : Int) := by
  unfold sG9
  refine ⟨?_, ?_, xup2_s _ _ _ _⟩
  · rw [xup2_n (by omega), xup2_n (by omega), xup2_s]
  · rw [xup2_n (by omega), xup2_s]
theorem sw_99s (hs : cSs S) (hb : S be = (1, 2, 8)) (ha : S ah = (1, 2, 8)) (hne : be ≠ 216 ∧ ah ≠ 216 ∧ be ≠ ah) (h2 : G ah 2 = (tp : Int)) (h3 : G ah 3 = (ac : Int)) : c99 f 216 ah be ln ch (S, G, m) = c99_27 f f 216 ah be ln ch 0 0 (S, sG9 G be tp ac, m) := by
  have e2 : xup2 G 216 0 (be : Int) ah 2 = (tp : Int) := by rw [xup2_n (by omega)]; exact h2
  have e3 : xup2 (xup2 G 216 0 (be : Int)) be 2 (tp : Int) ah 3 = (ac : Int) := by rw [xup2_n (by omega), xup2_n (by omega)]; exact h3
  unfold c99
  rw [o_pr (s216 hs), Option.bind_some, o_gr ha e2, Option.bind_some, o_pr hb, Option.bind_some, o_gr ha e3, Option.bind_some, o_pr hb, Option.bind_some]
  rfl
/-- settle(), its texts -/
theorem k_99a (hf : 100 < f) (hs : cSs S) (hb : S be = (1, 2, 8)) (ha : S ah = (1, 2, 8)) (hne : be ≠ 216 ∧ ah ≠ 216 ∧ be ≠ ah) (h2 : G ah 2 = (tp : Int)) (h3 : G ah 3 = (ac : Int)) (h5 : G be 5 = 0) (hE : sE9 S (sG9 G be tp ac) A ah be ln tp) : ∃ fu S' G' m' n u, c99 f 216 ah be ln ch (S, G, (A, sl)) = c99_27 f (fu + 1) 216 ah be ln ch u ((72 : Nat) : Int) (S', G', m') ∧ sI9 S (sG9 G be tp ac) A sl be ln tp 72 S' G' m' n u := by
  have e0 := sw_99s (f := f) (ln := ln) (ch := ch) (m := (A, sl)) hs hb ha hne h2 h3
  obtain ⟨fu, S', G', m', n, u, a1, a2, a3⟩ := k_99l (f := f) (sl := sl) (ch := ch) hE 72 0 f S (sG9 G be tp ac) (A, sl) 0 0 (by omega) (by omega) ⟨fun _ _ => rfl, fun _ _ _ _ => rfl, ⟨by rw [sG9_n (by omega) (by omega)]; exact h5, Nat.le_refl _, rfl⟩, .inl ⟨rfl, (sG9_s hne.1).2.1, rfl, rfl, fun y hy => absurd hy (Nat.not_lt_zero y)⟩, .inr ⟨rfl, fun ⟨y, y1, _⟩ => absurd y1 (Nat.not_lt_zero y)⟩⟩
  obtain ⟨fu, rfl⟩ : ∃ t, fu = t + 1 := ⟨fu - 1, by omega⟩
  exact ⟨fu, S', G', m', n, u, e0.trans a2, a3⟩
end
end
section
/-! THE CLASS: a line: present(), emptyPending(), countWorked() -/
section
variable {f ln : Nat} {S : Nat → Nat × Nat × Nat} {G : xG_} {m : Nat × Nat}
theorem k_5 {r mo : Nat} (ls : lnSt S ln) (lp : lnPt G ln) (h1 : G ln 1 = (r : Int)) (hr : r < 520) (hm : G (ln + 1) r = (mo : Int)) : c5 f ln (S, G, m) = some (mo, (S, G, m)) := by
  unfold c5
  rw [o_gr ls.1 lp.1, Option.bind_some, o_gi ls.1, Option.bind_some, h1, o_ar ls.2.1 (by decide) hr hm, Option.bind_some]
theorem o_sb0 {x z L : Nat} (h : S x = (2, 0, L)) (hz : z < L) : cq_sb x (z : Int) 0 (S, G, m) = some (S, xup2 G x z 0, m) := by
  unfold cq_sb cq_s
  show (if (S x).2.1 = 1 then _ else if (S x).2.1 = 0 then (if (S x).1 = 2 ∧ (S x).2.1 = 0 ∧ 0 ≤ (z : Int) ∧ (z : Int) < ((S x).2.2 : Int) then _ else _) else _) = _
  rw [h, if_neg (show ¬ (0 : Nat) = 1 by decide), if_pos rfl, if_pos ⟨rfl, rfl, by omega, by show (z : Int) < ((L : Nat) : Int); omega⟩]
  rfl
theorem k_7l (ls : lnSt S ln) : ∀ (d c fu : Nat) (G : xG_), c + d = 72 → d < fu → lnPt G ln → (∀ y, y < c → G (ln + 7) y = 0 ∧ G (ln + 8) y = 0) → ∃ G', c7_12 f fu ln (c : Int) (S, G, m) = some (S, G', m) ∧ (∀ a j, a ≠ ln + 7 → a ≠ ln + 8 → G' a j = G a j) ∧ ∀ y, y < 72 → G' (ln + 7) y = 0 ∧ G' (ln + 8) y = 0 := by
  intro d
  induction d with
  | zero =>
    intro c fu G e1 e2 lp h
    obtain ⟨fu, rfl⟩ : ∃ t, fu = t + 1 := ⟨fu - 1, by omega⟩
    refine ⟨G, ?_, fun _ _ _ _ => rfl, fun y hy => h y (by omega)⟩
    show c7_12b (c7_12 f fu) f ln _ _ = _
    unfold c7_12b
    rw [if_pos (by omega)]
  | succ d ih =>
    intro c fu G e1 e2 lp h
    obtain ⟨fu, rfl⟩ : ∃ t, fu = t + 1 := ⟨fu - 1, by omega⟩
    have ec : xwr ((c : Int) + 1) = ((c + 1 : Nat) : Int) := by rw [xwr_g _ (by omega) (by omega)]; omega
    obtain ⟨l0, _, _, _, _, _, _, l7, l8⟩ := id ls
    obtain ⟨p0, p5, p6, p9, p10, p11, p12, p13⟩ := id lp
    have e13 : xup2 G (ln + 7) c 0 ln 13 = ((ln + 8 : Nat) : Int) := by rw [xup2_n (by omega)]; exact p13
    have z : ∀ a j, a ≠ ln + 7 → a ≠ ln + 8 → xup2 (xup2 G (ln + 7) c 0) (ln + 8) c ((0 : Nat) : Int) a j = G a j := fun a j y1 y2 => by rw [xup2_n (by omega), xup2_n (by omega)]
    have st : c7_12 f (fu + 1) ln (c : Int) (S, G, m) = c7_12 f fu ln ((c + 1 : Nat) : Int) (S, xup2 (xup2 G (ln + 7) c 0) (ln + 8) c ((0 : Nat) : Int), m) := by
      show c7_12b (c7_12 f fu) f ln _ _ = _
      unfold c7_12b
      rw [if_neg (by omega), o_gr l0 p12, Option.bind_some, o_sb0 l7 (by omega), Option.bind_some, o_gr l0 e13, Option.bind_some, o_sr l8 (by omega) (.inl rfl), Option.bind_some, ec]
    obtain ⟨G', i1, i2, i3⟩ := ih (c + 1) fu (xup2 (xup2 G (ln + 7) c 0) (ln + 8) c ((0 : Nat) : Int)) (by omega) (by omega) (by
      unfold lnPt
      rw [z _ _ (by omega) (by omega), z _ _ (by omega) (by omega), z _ _ (by omega) (by omega), z _ _ (by omega) (by omega), z _ _ (by omega) (by omega), z _ _ (by omega) (by omega), z _ _ (by omega) (by omega), z _ _ (by omega) (by omega)]
      exact lp) (fun y hy => by
      by_cases cy : y = c
      · rw [cy, xup2_s, xup2_n (by omega), xup2_s]; exact ⟨rfl, rfl⟩
      · rw [xup2_n (by omega), xup2_n (by omega), xup2_n (by omega), xup2_n (by omega)]
        exact h y (by omega))
    exact ⟨G', st.trans i1, fun a j y1 y2 => by rw [i2 a j y1 y2, z a j y1 y2], i3⟩
/-- emptyPending() -/
theorem k_7 (hf : 100 < f) (ls : lnSt S ln) (lp : lnPt G ln) : ∃ G', c7 f ln (S, G, m) = some (S, G', m) ∧ (∀ a j, ¬ (a = ln ∧ (j = 7 ∨ j = 8)) → a ≠ ln + 7 → a ≠ ln + 8 → G' a j = G a j) ∧ G' ln 7 = 0 ∧ G' ln 8 = 0 ∧ ∀ y, y < 72 → G' (ln + 7) y = 0 ∧ G' (ln + 8) y = 0 := by
  have z : ∀ a j, ¬ (a = ln ∧ (j = 7 ∨ j = 8)) → xup2 (xup2 G ln 7 ((0 : Nat) : Int)) ln 8 0 a j = G a j := fun a j y => by rw [xup2_n (by omega), xup2_n (by omega)]
  obtain ⟨G', a1, a2, a3⟩ := k_7l (f := f) (m := m) ls 72 0 f (xup2 (xup2 G ln 7 ((0 : Nat) : Int)) ln 8 0) (by omega) (by omega) (by
    unfold lnPt
    rw [z _ _ (by omega), z _ _ (by omega), z _ _ (by omega), z _ _ (by omega), z _ _ (by omega), z _ _ (by omega), z _ _ (by omega), z _ _ (by omega)]
    exact lp) (fun y hy => absurd hy (Nat.not_lt_zero y))
  refine ⟨G', ?_, fun a j y1 y2 y3 => by rw [a2 a j y2 y3, z a j y1], ?_, ?_, a3⟩
  · unfold c7
    rw [o_pr ls.1, Option.bind_some, o_p ls.1, Option.bind_some]
    exact a1
  · rw [a2 _ _ (by omega) (by omega), xup2_n (by omega), xup2_s]; rfl
  · rw [a2 _ _ (by omega) (by omega), xup2_s]
theorem k_10l {wk : Nat} {tk : Int} (hw : wk < 65536) (ls : lnSt S ln) (g5 : G ln 5 = ((ln + 2 : Nat) : Int)) : ∀ (d c fu : Nat) (G' : xG_), c + d = 16 → d < fu → (∀ a j, a ≠ ln + 2 → G' a j = G a j) → (∀ p, p < 16 → c ≤ p → G' (ln + 2) p = G (ln + 2) p) → (∀ p, p < 16 → 0 ≤ G (ln + 2) p ∧ G (ln + 2) p ≤ 100000) → (∀ p, p < c → G' (ln + 2) p = (if tk = 0 then G (ln + 2) p else 0) + if wk.testBit p = true then 1 else 0) → ∃ G'', c10_2 f fu ln (wk : Int) tk (c : Int) (S, G', m) = some (S, G'', m) ∧ (∀ a j, a ≠ ln + 2 → G'' a j = G a j) ∧ ∀ p, p < 16 → G'' (ln + 2) p = (if tk = 0 then G (ln + 2) p else 0) + if wk.testBit p = true then 1 else 0 := by
  intro d
  induction d with
  | zero =>
    intro c fu G' e1 e2 hz _ _ hp
    obtain ⟨fu, rfl⟩ : ∃ t, fu = t + 1 := ⟨fu - 1, by omega⟩
    refine ⟨G', ?_, hz, fun p h => hp p (by omega)⟩
    show c10_2b (c10_2 f fu) f ln _ _ _ _ = _
    unfold c10_2b
    rw [if_pos (by omega)]
  | succ d ih =>
    intro c fu G' e1 e2 hz hc hb hp
    obtain ⟨fu, rfl⟩ : ∃ t, fu = t + 1 := ⟨fu - 1, by omega⟩
    have ec : xwr ((c : Int) + 1) = ((c + 1 : Nat) : Int) := by rw [xwr_g _ (by omega) (by omega)]; omega
    obtain ⟨l0, _, l2, _⟩ := id ls
    have hcb := hb c (by omega)
    have hcc := hc c (by omega) (Nat.le_refl _)
    have e5 : G' ln 5 = ((ln + 2 : Nat) : Int) := by rw [hz _ _ (by omega)]; exact g5
    have ebit : xand (xshr (wk : Int) (c : Int)) 1 = if wk.testBit c = true then 1 else 0 := by
      cases hb' : wk.testBit c with
      | true => rw [(xbit (by omega) (by omega)).mpr hb']; rfl
      | false => rw [(xbit0 (by omega) (by omega)).mpr hb']; rfl
    have ea : cq_a 3 (ln + 2) (c : Int) (S, G', m) = some (G (ln + 2) c) := by
      unfold cq_a
      show (if (S (ln + 2)).1 = 2 ∧ (S (ln + 2)).2.1 = 3 ∧ 0 ≤ (c : Int) ∧ (c : Int) < ((S (ln + 2)).2.2 : Int) then some (G' (ln + 2) (c : Int).toNat) else none) = _
      rw [l2, if_pos ⟨rfl, rfl, by omega, by show (c : Int) < ((16 : Nat) : Int); omega⟩, Int.toNat_natCast, hcc]
    have es : ∀ v : Int, cq_s 3 (ln + 2) (c : Int) v (S, G', m) = some (S, xup2 G' (ln + 2) c v, m) := fun v => by
      unfold cq_s
      show (if (S (ln + 2)).1 = 2 ∧ (S (ln + 2)).2.1 = 3 ∧ 0 ≤ (c : Int) ∧ (c : Int) < ((S (ln + 2)).2.2 : Int) then _ else none) = _
      rw [l2, if_pos ⟨rfl, rfl, by omega, by show (c : Int) < ((16 : Nat) : Int); omega⟩]
      rfl
    have st : c10_2 f (fu + 1) ln (wk : Int) tk (c : Int) (S, G', m) = c10_2 f fu ln (wk : Int) tk ((c + 1 : Nat) : Int) (S, xup2 G' (ln + 2) c ((if tk = 0 then G (ln + 2) c else 0) + if wk.testBit c = true then 1 else 0), m) := by
      show c10_2b (c10_2 f fu) f ln _ _ _ _ = _
      unfold c10_2b c10_27
      rw [if_neg (by omega), o_gr l0 e5, Option.bind_some]
      by_cases ct : tk = 0
      · rw [if_pos ct, if_pos ct, Option.bind_some, ea, Option.bind_some, ebit, xwr_g _ (by split <;> omega) (by split <;> omega), es, Option.bind_some, ec]
      · rw [if_neg ct, if_neg ct, ebit, xwr_g _ (by split <;> omega) (by split <;> omega), es, Option.bind_some, ec]
    obtain ⟨G'', i1, i2, i3⟩ := ih (c + 1) fu (xup2 G' (ln + 2) c ((if tk = 0 then G (ln + 2) c else 0) + if wk.testBit c = true then 1 else 0)) (by omega) (by omega) (fun a j y => by rw [xup2_n (by omega)]; exact hz a j y) (fun p h1 h2 => by rw [xup2_n (by omega)]; exact hc p h1 (by omega)) hb (fun p h => by
      by_cases cp : p = c
      · rw [cp, xup2_s]
      · rw [xup2_n (by omega)]; exact hp p (by omega))
    exact ⟨G'', st.trans i1, i2, i3⟩
/-- countWorked() of a line -/
theorem k_10 {wk : Nat} {tk : Int} (hf : 100 < f) (hw : wk < 65536) (ls : lnSt S ln) (lp : lnPt G ln) (hb : ∀ p, p < 16 → 0 ≤ G (ln + 2) p ∧ G (ln + 2) p ≤ 100000) : ∃ G', c10 f ln (wk : Int) tk (S, G, m) = some (S, G', m) ∧ (∀ a j, a ≠ ln + 2 → G' a j = G a j) ∧ ∀ p, p < 16 → G' (ln + 2) p = (if tk = 0 then G (ln + 2) p else 0) + if wk.testBit p = true then 1 else 0 :=
  k_10l hw ls lp.2.1 16 0 f G (by omega) (by omega) (fun _ _ _ => rfl) (fun _ _ _ => rfl) hb (fun p hp => absurd hp (Nat.not_lt_zero p))
end
end
section
/-! THE CLASS: a line: append() -/
/-- over the last k rounds -/
def sR9 (g : Nat → Nat) (R : Nat) : Nat → Nat
  | 0 => 0
  | k + 1 => sR9 g R k + g (R - k)
def okK9 (mv tl tk : Nat → Nat) (R k : Nat) : Prop := sR9 mv R k ≤ 8000 ∧ sR9 tl R k ≤ 100 ∧ sR9 tk R k ≤ 7
theorem okK9.le {mv tl tk : Nat → Nat} {R : Nat} : ∀ {d k : Nat}, okK9 mv tl tk R (k + d) → okK9 mv tl tk R k
  | 0, _, h => h
  | d + 1, k, h => by
    have h' : okK9 mv tl tk R ((k + d) + 1) := h
    have : okK9 mv tl tk R (k + d) := by
      obtain ⟨h1, h2, h3⟩ := h'
      have e1 : sR9 mv R (k + d + 1) = sR9 mv R (k + d) + mv (R - (k + d)) := rfl
      have e2 : sR9 tl R (k + d + 1) = sR9 tl R (k + d) + tl (R - (k + d)) := rfl
      have e3 : sR9 tk R (k + d + 1) = sR9 tk R (k + d) + tk (R - (k + d)) := rfl
      exact ⟨by omega, by omega, by omega⟩
    exact okK9.le this
section
variable {f ln R old : Nat} {S : Nat → Nat × Nat × Nat} {G : xG_} {m : Nat × Nat} {mv tl tk mo : Nat → Nat}
theorem k_11l (ls : lnSt S ln) (g0 : G ln 0 = ((ln + 1 : Nat) : Int)) (g2 : G ln 2 = (old : Int)) (hR : R < 520) (ho : old ≤ R) (hm : ∀ r, old < r → r ≤ R → G (ln + 1) r = (mo r : Int) ∧ S (mo r) = (1, 2, 8) ∧ G (mo r) 4 = (mv r : Int) ∧ G (mo r) 5 = (tl r : Int) ∧ G (mo r) 6 = (tk r : Int)) (hb : ∀ r, mv r ≤ 100000 ∧ tl r ≤ 100000 ∧ tk r ≤ 100000) : ∀ (d k fu : Nat), k + d = R - old → d < fu → okK9 mv tl tk R k → ∃ k', c11_39 f fu ln (sR9 mv R k : Int) (sR9 tl R k : Int) (sR9 tk R k : Int) ((R - k : Nat) : Int) ((R - k : Nat) : Int) (S, G, m) = some (S, xup2 G ln 2 ((R - k' : Nat) : Int), m) ∧ okK9 mv tl tk R k' ∧ k' ≤ R - old ∧ ∀ k, k' < k → k ≤ R - old → ¬ okK9 mv tl tk R k := by
  intro d
  induction d with
  | zero =>
    intro k fu e1 e2 h
    obtain ⟨fu, rfl⟩ : ∃ t, fu = t + 1 := ⟨fu - 1, by omega⟩
    refine ⟨k, ?_, h, by omega, fun k' h1 h2 => by omega⟩
    show c11_39b (c11_39 f fu) f ln _ _ _ _ _ _ = _
    unfold c11_39b c11_124
    rw [o_gi ls.1, Option.bind_some, g2, if_pos (by omega), o_p ls.1, Option.bind_some]
  | succ d ih =>
    intro k fu e1 e2 h
    obtain ⟨fu, rfl⟩ : ∃ t, fu = t + 1 := ⟨fu - 1, by omega⟩
    obtain ⟨m1, m2, m3, m4, m5⟩ := hm (R - k) (by omega) (by omega)
    obtain ⟨b1, b2, b3⟩ := hb (R - k)
    obtain ⟨o1, o2, o3⟩ := id h
    have s1 : sR9 mv R (k + 1) = sR9 mv R k + mv (R - k) := rfl
    have s2 : sR9 tl R (k + 1) = sR9 tl R k + tl (R - k) := rfl
    have s3 : sR9 tk R (k + 1) = sR9 tk R k + tk (R - k) := rfl
    have w1 : xwr ((sR9 mv R k : Int) + (mv (R - k) : Int)) = (sR9 mv R (k + 1) : Int) := by rw [xwr_g _ (by omega) (by omega)]; omega
    have w2 : xwr ((sR9 tl R k : Int) + (tl (R - k) : Int)) = (sR9 tl R (k + 1) : Int) := by rw [xwr_g _ (by omega) (by omega)]; omega
    have w3 : xwr ((sR9 tk R k : Int) + (tk (R - k) : Int)) = (sR9 tk R (k + 1) : Int) := by rw [xwr_g _ (by omega) (by omega)]; omega
    have w4 : xwr (((R - k : Nat) : Int) - 1) = ((R - (k + 1) : Nat) : Int) := by rw [xwr_g _ (by omega) (by omega)]; omega
    have w5 : xwr (((R - k : Nat) : Int) + -1) = ((R - (k + 1) : Nat) : Int) := by rw [xwr_g _ (by omega) (by omega)]; omega
    have ear := o_ar (S := S) (G := G) (m := m) ls.2.1 (by decide : 5 ≤ 7) (by omega : R - k < 520) m1
    have g4 : cq_gi 2 4 8 (mo (R - k)) (S, G, m) = some (mv (R - k) : Int) := by rw [o_gi m2, m3]
    have g5 : cq_gi 2 5 8 (mo (R - k)) (S, G, m) = some (tl (R - k) : Int) := by rw [o_gi m2, m4]
    have g6 : cq_gi 2 6 8 (mo (R - k)) (S, G, m) = some (tk (R - k) : Int) := by rw [o_gi m2, m5]
    have e0 : c11_39 f (fu + 1) ln (sR9 mv R k : Int) (sR9 tl R k : Int) (sR9 tk R k : Int) ((R - k : Nat) : Int) ((R - k : Nat) : Int) (S, G, m) = if (8000 : Int) < (sR9 mv R (k + 1) : Int) then some (S, xup2 G ln 2 ((R - k : Nat) : Int), m) else if (100 : Int) < (sR9 tl R (k + 1) : Int) then some (S, xup2 G ln 2 ((R - k : Nat) : Int), m) else if (sR9 tk R (k + 1) : Int) ≤ 7 then c11_39 f fu ln (sR9 mv R (k + 1) : Int) (sR9 tl R (k + 1) : Int) (sR9 tk R (k + 1) : Int) ((R - (k + 1) : Nat) : Int) ((R - (k + 1) : Nat) : Int) (S, G, m) else some (S, xup2 G ln 2 ((R - k : Nat) : Int), m) := by
      show c11_39b (c11_39 f fu) f ln _ _ _ _ _ _ = _
      unfold c11_39b c11_124
      rw [o_gi ls.1, Option.bind_some, g2, if_neg (by omega), o_gr ls.1 g0, Option.bind_some, ear, Option.bind_some, g4, Option.bind_some, Option.bind_some, ear, Option.bind_some, g5, Option.bind_some, Option.bind_some, ear, Option.bind_some, g6, Option.bind_some, w1, w2, w3, w4, w5, o_p ls.1, Option.bind_some]
    have stop : ¬ okK9 mv tl tk R (k + 1) → ∀ k', k < k' → k' ≤ R - old → ¬ okK9 mv tl tk R k' := fun hn k' h1 _ ho => hn (by
      have e : k' = (k + 1) + (k' - (k + 1)) := by omega
      rw [e] at ho
      exact ho.le)
    rw [e0]
    by_cases c1 : (8000 : Int) < (sR9 mv R (k + 1) : Int)
    · rw [if_pos c1]
      exact ⟨k, rfl, h, by omega, stop (fun z => by have := z.1; omega)⟩
    · rw [if_neg c1]
      by_cases c2 : (100 : Int) < (sR9 tl R (k + 1) : Int)
      · rw [if_pos c2]
        exact ⟨k, rfl, h, by omega, stop (fun z => by have := z.2.1; omega)⟩
      · rw [if_neg c2]
        by_cases c3 : (sR9 tk R (k + 1) : Int) ≤ 7
        · rw [if_pos c3]
          exact ih (k + 1) fu (by omega) (by omega) ⟨by omega, by omega, by omega⟩
        · rw [if_neg c3]
          exact ⟨k, rfl, h, by omega, stop (fun z => by have := z.2.2; omega)⟩
end
end
section
/-! THE CLASS: a line: append() whole -/
section
variable {f ln R old be : Nat} {S : Nat → Nat × Nat × Nat} {G : xG_} {m : Nat × Nat} {mv tl tk mo : Nat → Nat}
theorem o_sr7 {x z L y : Nat} (h : S x = (2, 7, L)) (hz : z < L) (hy : S y = (1, 2, 8)) : cq_sr x (z : Int) y (S, G, m) = some (S, xup2 G x z (y : Int), m) := by
  unfold cq_sr
  show (if (S x).1 = 2 ∧ 5 ≤ (S x).2.1 ∧ 0 ≤ (z : Int) ∧ (z : Int) < ((S x).2.2 : Int) ∧ (y = 0 ∨ (S y).1 = 1 ∧ (S x).2.1 = (S y).2.1 + 5) then _ else _) = _
  rw [h, if_pos ⟨rfl, by show 5 ≤ 7; decide, by omega, by show (z : Int) < ((L : Nat) : Int); omega, by right; rw [hy]; exact ⟨rfl, rfl⟩⟩]
  rfl
/-- append() -/
theorem k_11 (hf : 600 < f) (ls : lnSt S ln) (lp : lnPt G ln) (h1 : G ln 1 = (R : Int)) (h2 : G ln 2 = (old : Int)) (hR : R + 1 < 520) (ho : old ≤ R) (hb : S be = (1, 2, 8)) (hbe : ∀ r, old < r → r ≤ R + 1 → mo r ≠ ln ∧ mo r ≠ ln + 1) (hbm : mo (R + 1) = be) (hm : ∀ r, old < r → r ≤ R → G (ln + 1) r = (mo r : Int) ∧ S (mo r) = (1, 2, 8)) (hg : ∀ r, old < r → r ≤ R + 1 → G (mo r) 4 = (mv r : Int) ∧ G (mo r) 5 = (tl r : Int) ∧ G (mo r) 6 = (tk r : Int)) (hbd : ∀ r, mv r ≤ 100000 ∧ tl r ≤ 100000 ∧ tk r ≤ 100000) :
    ∃ G' k, c11 f ln be (S, G, m) = some (S, G', m) ∧ (∀ a j, ¬ (a = ln ∧ (j = 1 ∨ j = 2)) → ¬ (a = ln + 1 ∧ j = R + 1) → G' a j = G a j) ∧ G' ln 1 = ((R + 1 : Nat) : Int) ∧ G' (ln + 1) (R + 1) = (be : Int) ∧ G' ln 2 = ((R + 1 - k : Nat) : Int) ∧ okK9 mv tl tk (R + 1) k ∧ k ≤ R + 1 - old ∧ ∀ k', k < k' → k' ≤ R + 1 - old → ¬ okK9 mv tl tk (R + 1) k' := by
  have w1 : xwr ((R : Int) + 1) = ((R + 1 : Nat) : Int) := by rw [xwr_g _ (by omega) (by omega)]; omega
  have z : ∀ a j, ¬ (a = ln ∧ j = 1) → ¬ (a = ln + 1 ∧ j = R + 1) → xup2 (xup2 G ln 1 ((R + 1 : Nat) : Int)) (ln + 1) (R + 1) (be : Int) a j = G a j := fun a j y1 y2 => by rw [xup2_n y2, xup2_n y1]
  have e0 : xup2 G ln 1 ((R + 1 : Nat) : Int) ln 0 = ((ln + 1 : Nat) : Int) := by rw [xup2_n (by omega)]; exact lp.1
  have v1 : xup2 (xup2 G ln 1 ((R + 1 : Nat) : Int)) (ln + 1) (R + 1) (be : Int) ln 1 = ((R + 1 : Nat) : Int) := by rw [xup2_n (by omega), xup2_s]
  obtain ⟨k, a1, a2, a3, a4⟩ := k_11l (f := f) (m := m) (R := R + 1) (old := old) (mv := mv) (tl := tl) (tk := tk) (mo := mo) (G := xup2 (xup2 G ln 1 ((R + 1 : Nat) : Int)) (ln + 1) (R + 1) (be : Int)) ls (by rw [z _ _ (by omega) (by omega)]; exact lp.1) (by rw [z _ _ (by omega) (by omega)]; exact h2) hR (by omega) (fun r r1 r2 => by
    obtain ⟨n1, n2⟩ := hbe r r1 r2
    obtain ⟨g4, g5, g6⟩ := hg r r1 r2
    refine ⟨?_, ?_, by rw [z _ _ (by omega) (by omega)]; exact g4, by rw [z _ _ (by omega) (by omega)]; exact g5, by rw [z _ _ (by omega) (by omega)]; exact g6⟩
    · by_cases cr : r = R + 1
      · rw [cr, xup2_s, hbm]
      · rw [z _ _ (by omega) (by omega)]; exact (hm r r1 (by omega)).1
    · by_cases cr : r = R + 1
      · rw [cr, hbm]; exact hb
      · exact (hm r r1 (by omega)).2) hbd (R + 1 - old) 0 f (by omega) (by omega) ⟨by show 0 ≤ 8000; decide, by show 0 ≤ 100; decide, by show 0 ≤ 7; decide⟩
  refine ⟨xup2 (xup2 (xup2 G ln 1 ((R + 1 : Nat) : Int)) (ln + 1) (R + 1) (be : Int)) ln 2 ((R + 1 - k : Nat) : Int), k, ?_, fun a j y1 y2 => ?_, ?_, ?_, xup2_s _ _ _ _, a2, a3, a4⟩
  · unfold c11
    have i1 : cq_gi 1 1 14 ln (S, xup2 G ln 1 ((R + 1 : Nat) : Int), m) = some ((R + 1 : Nat) : Int) := by rw [o_gi ls.1, xup2_s]
    have i2 : cq_gi 1 1 14 ln (S, xup2 (xup2 G ln 1 ((R + 1 : Nat) : Int)) (ln + 1) (R + 1) (be : Int), m) = some ((R + 1 : Nat) : Int) := by rw [o_gi ls.1, v1]
    rw [o_gi ls.1, Option.bind_some, h1, w1, o_p ls.1, Option.bind_some, o_gr ls.1 e0, Option.bind_some, i1, Option.bind_some, o_sr7 ls.2.1 hR hb, Option.bind_some, i2, Option.bind_some, Option.bind_some]
    exact a1
  · rw [xup2_n (by omega), z _ _ (by omega) y2]
  · rw [xup2_n (by omega)]; exact v1
  · rw [xup2_n (by omega), xup2_s]
end
end
section
/-! THE CLASS: round(), its joints -/
section
variable {f ln mo be hr q : Nat} {S : Nat → Nat × Nat × Nat} {G : xG_} {m : Nat × Nat}
theorem k_6 {r a b : Int} (ls : S ln = (1, 1, 14)) (h1 : G ln 1 = b) (h2 : G ln 2 = a) : c6 f ln r (S, G, m) = some (if a ≤ r ∧ r ≤ b then 1 else 0, (S, G, m)) := by
  unfold c6 c6_20 c6_21
  rw [o_gi ls, Option.bind_some, h2]
  by_cases c1 : r < a
  · rw [if_pos c1, if_neg (show ¬ (a ≤ r ∧ r ≤ b) by omega)]; rfl
  · rw [if_neg c1, o_gi ls, Option.bind_some, h1]
    by_cases c2 : b < r
    · rw [if_pos c2, if_neg (show ¬ (a ≤ r ∧ r ≤ b) by omega)]; rfl
    · rw [if_neg c2, if_pos (show a ≤ r ∧ r ≤ b by omega)]; rfl
/-- the start: which program the round is of -/
theorem sw_173s {e r : Nat} (hs : cSs S) (hp : cPs G) (h6 : G 64 6 = (hr : Int)) (hr4 : hr < 4) (hl : ln = 243 + 9 * hr) (h1 : G ln 1 = (r : Int)) (hrr : r < 520) (hm : G (ln + 1) r = (mo : Int)) (sm : S mo = (1, 2, 8)) (h0 : G mo 0 = (q : Int)) (h7 : G ln 7 = (e : Int)) : c173 f 64 (S, G, m) = if e = 0 then c173_43 f 64 ln mo 0 q (S, G, m) else c173_43 f 64 ln mo 1 e (S, G, m) := by
  have ls := lnSt_of hs hr4
  have lp := lnPt_of hp hr4
  have pl := p_ln hp hr4
  rw [← hl] at ls lp pl
  have e5 := k_5 (f := f) (m := m) ls lp h1 hrr hm
  have i1 : cq_is 1 14 ln (S, G, m) = some () := if_pos ls.1
  have g6 : cq_gi 11 6 17 64 (S, G, m) = some (hr : Int) := by rw [o_gi (s64 hs), h6]
  unfold c173
  rw [o_gr (y := 220) (s64 hs) (p64_5 hp), Option.bind_some, g6, Option.bind_some, o_ar (s220 hs) (by decide) hr4 pl, Option.bind_some, i1, Option.bind_some, e5, Option.bind_some, o_gr ls.1 h7, Option.bind_some]
  by_cases c : e = 0
  · rw [if_pos c, if_pos c]
    unfold c173_27
    rw [if_pos rfl, o_gr sm h0, Option.bind_some]
  · rw [if_neg c, if_neg c]
    unfold c173_27
    rw [if_neg (by decide), o_gr ls.1 h7, Option.bind_some]
/-- the round is refused -/
theorem sw_173f {x3 v : Int} {T : xT_} (hs : cSs S) (ls : S ln = (1, 1, 14)) (h8 : G 64 8 = v) (hv : 0 ≤ v ∧ v ≤ 100000) (e7 : c7 f ln (S, xup2 G 64 8 (v + 1), m) = some T) : c173_127 f 64 ln mo x3 0 (S, G, m) = some (-1, T) := by
  have w : xwr (v + 1) = v + 1 := xwr_g _ (by omega) (by omega)
  have i1 : cq_is 1 14 ln (S, xup2 G 64 8 (v + 1), m) = some () := if_pos ls
  unfold c173_127
  rw [if_neg (fun z => z rfl), o_gi (s64 hs), Option.bind_some, h8, w, o_p (s64 hs), Option.bind_some, i1, Option.bind_some, e7, Option.bind_some]
/-- the round is made -/
theorem sw_173m {x3 v c13 c14 : Int} {S1 S2 : Nat → Nat × Nat × Nat} {G1 G2 G3 G4 G5 : xG_} {m1 m2 : Nat × Nat} (hs1 : cSs S1) (hs2 : cSs S2) (hp : cPs G) (hp1 : cPs G1) (hp2 : cPs G2) (hs : cSs S) (s93 : S 93 = (1, 10, 18)) (s93' : S1 93 = (1, 10, 18)) (s932 : S2 93 = (1, 10, 18)) (ls : S2 ln = (1, 1, 14)) (sb : S2 be = (1, 2, 8)) (hbe : be ≠ 64) (e1 : c162 f 93 mo x3 (S, G, m) = some (be, (S1, G1, m1))) (h13 : G1 93 13 = c13) (e2 : c99 f 216 mo be ln c13 (S1, G1, m1) = some (S2, G2, m2)) (h14 : G2 93 14 = c14) (e3 : c10 f ln c14 x3 (S2, G2, m2) = some (S2, G3, m2)) (e4 : c11 f ln be (S2, G3, m2) = some (S2, G4, m2)) (e5 : c7 f ln (S2, G4, m2) = some (S2, G5, m2)) (h4 : G5 be 4 = v) {x5 : Int} (hx : ¬ x5 = 0) : c173_127 f 64 ln mo x3 x5 (S, G, m) = some (v, (S2, xup2 (xup2 G5 64 12 (mo : Int)) 64 13 (be : Int), m2)) := by
  have i1 : cq_is 10 18 93 (S, G, m) = some () := if_pos s93
  have i2 : cq_is 7 5 216 (S1, G1, m1) = some () := if_pos (s216 hs1)
  have i3 : ∀ G' : xG_, cq_is 1 14 ln (S2, G', m2) = some () := fun G' => if_pos ls
  have hv : xup2 (xup2 G5 64 12 (mo : Int)) 64 13 (be : Int) be 4 = v := by rw [xup2_n (by omega), xup2_n (by omega)]; exact h4
  unfold c173_127
  rw [if_pos hx, o_gr (y := 93) (s64 hs) (p64_3 hp), Option.bind_some, i1, Option.bind_some, e1, Option.bind_some, o_gr (y := 216) (s64 hs1) (p64_4 hp1), Option.bind_some, o_gr (y := 93) (s64 hs1) (p64_3 hp1), Option.bind_some, o_gi s93', Option.bind_some, h13, i2, Option.bind_some, e2, Option.bind_some, o_gr (y := 93) (s64 hs2) (p64_3 hp2), Option.bind_some, o_gi s932, Option.bind_some, h14, i3, Option.bind_some, e3, Option.bind_some, i3, Option.bind_some, e4, Option.bind_some, i3, Option.bind_some, e5, Option.bind_some, o_pr (s64 hs2), Option.bind_some, o_pr (s64 hs2), Option.bind_some, o_gi sb, Option.bind_some, hv]
end
end
