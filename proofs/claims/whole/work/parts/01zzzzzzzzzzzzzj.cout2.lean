/-! THE CLASS: outcome() whole -/
def lkB (s so : pPg) (r : Nat) : Bool := (List.range s.1.length).any (fun p => decide (qNm s p = qNm so r) && decide (qN s p = qN so r))
theorem lkB_t {s so : pPg} {r : Nat} : lkB s so r = true ↔ ∃ p, p < s.1.length ∧ qNm s p = qNm so r ∧ qN s p = qN so r := by
  unfold lkB
  rw [List.any_eq_true]
  constructor
  · rintro ⟨p, p1, p2⟩
    rw [Bool.and_eq_true, decide_eq_true_iff, decide_eq_true_iff] at p2
    exact ⟨p, List.mem_range.mp p1, p2⟩
  · rintro ⟨p, p1, p2, p3⟩
    exact ⟨p, List.mem_range.mpr p1, by rw [Bool.and_eq_true, decide_eq_true_iff, decide_eq_true_iff]; exact ⟨p2, p3⟩⟩
/-- rows of predicates that are gone -/
def dfG (s so : pPg) (Mo : Nat → List pRw) : Nat → Nat
  | 0 => 0
  | r + 1 => dfG s so Mo r + (if lkB s so r = true then 0 else (Mo r).length)
section
variable {f q qo nx nxo mp rp ro r x n npo B sl : Nat} {S : Nat → Nat × Nat × Nat} {G : xG_} {m : Nat × Nat} {s so : pPg} {tk mv v w e : Int} {r161 : Nat → Nat → Int → Nat → Int → Int → xT_ → Option (Nat × xT_)}
theorem st_161n' {T : xT_} : c162_161b r161 f 93 mp 0 rp mv (r : Int) T = c162_219 f 93 mp 0 rp mv T := by
  unfold c162_161b
  rw [if_pos rfl]
theorem st_161z' (ms : S mp = (1, 2, 8)) (h0 : G mp 0 = (qo : Int)) (os : S qo = (1, 3, 14)) (hn : G qo 1 = (npo : Int)) : c162_161b r161 f 93 mp 1 rp mv (npo : Int) (S, G, m) = c162_219 f 93 mp 1 rp mv (S, G, m) := by
  have h10 : ¬ (1 : Int) = 0 := by decide
  unfold c162_161b
  simp (disch := omega) only [cq_gi, cq_gr, cq_a, cq_s, cq_p, cq_pr, cq_is, cq_ar, cq_ab, cq_ln, xq_nz, Option.bind_some, xup2_n, xup2_s, Int.toNat_natCast, Int.reduceToNat, if_pos, if_neg, true_and, and_true, and_self, eq_self, if_true, reduceIte, not_true_eq_false, not_false_eq_true, or_true, true_or, ms, h0, os, hn, h10]
theorem st_161y' (hs : cSs S) (h1 : G 93 1 = (q : Int)) (qs : S q = (1, 3, 14)) (ms : S mp = (1, 2, 8)) (h0 : G mp 0 = (qo : Int)) (os : S qo = (1, 3, 14)) (hn : G qo 1 = (npo : Int)) (hr : r < npo) (e : c21 f q qo (r : Int) (S, G, m) = some (v, (S, G, m))) (hv : v ≠ -1) (em : xwr (mv + 0) = mv) (er : xwr ((r : Int) + 1) = ((r + 1 : Nat) : Int)) : c162_161b r161 f 93 mp 1 rp mv (r : Int) (S, G, m) = r161 93 mp 1 rp mv ((r + 1 : Nat) : Int) (S, G, m) := by
  have h10 : ¬ (1 : Int) = 0 := by decide
  unfold c162_161b c162_210
  simp (disch := omega) only [cq_gi, cq_gr, cq_a, cq_s, cq_p, cq_pr, cq_is, cq_ar, cq_ab, cq_ln, xq_nz, Option.bind_some, xup2_n, xup2_s, Int.toNat_natCast, Int.reduceToNat, if_pos, if_neg, true_and, and_true, and_self, eq_self, if_true, reduceIte, not_true_eq_false, not_false_eq_true, or_true, true_or, s93 hs, h1, qs, ms, h0, os, hn, h10, e, hv, em, er]
theorem st_161g' (hs : cSs S) (h1 : G 93 1 = (q : Int)) (qs : S q = (1, 3, 14)) (ms : S mp = (1, 2, 8)) (h0 : G mp 0 = (qo : Int)) (os : S qo = (1, 3, 14)) (hn : G qo 1 = (npo : Int)) (hr : r < npo) (e : c21 f q qo (r : Int) (S, G, m) = some (-1, (S, G, m))) (hm1 : G mp 1 = (ro : Int)) (rs : S ro = (2, 10, npo)) (hx : G ro r = (x : Int)) (xs : S x = (1, 5, 4)) (hsz : G x 1 = (n : Int)) (em : xwr (mv + (n : Int)) = w) (er : xwr ((r : Int) + 1) = ((r + 1 : Nat) : Int)) : c162_161b r161 f 93 mp 1 rp mv (r : Int) (S, G, m) = r161 93 mp 1 rp w ((r + 1 : Nat) : Int) (S, G, m) := by
  have h10 : ¬ (1 : Int) = 0 := by decide
  unfold c162_161b c162_210
  simp (disch := omega) only [cq_gi, cq_gr, cq_a, cq_s, cq_p, cq_pr, cq_is, cq_ar, cq_ab, cq_ln, xq_nz, Option.bind_some, xup2_n, xup2_s, Int.toNat_natCast, Int.reduceToNat, if_pos, if_neg, true_and, and_true, and_self, eq_self, if_true, reduceIte, not_true_eq_false, not_false_eq_true, or_true, true_or, s93 hs, h1, qs, ms, h0, os, hn, h10, e, hm1, rs, hx, xs, hsz, em, er, Nat.reduceLeDiff]
/-- predicates that are gone -/
theorem k_161g {nr : Nat} {xr cr : Nat → Nat} {Mo : Nat → List pRw} (hf : 20 < f) (hs : cSs S) (h1 : G 93 1 = (q : Int)) (hP : cPgm S G q nx s) (ho : cPgm S G qo nxo so) (hoks : qOk s) (hoko : qOk so) (hM : cMr S G nr mp qo ro so xr cr Mo) (hMl : ∀ r, r < so.1.length → (Mo r).length ≤ 100) (mv0 : Nat) (hmv : mv0 ≤ 100000) : ∀ (d r fu : Nat), r + d = so.1.length → d < fu → c162_161 f fu 93 mp 1 rp ((mv0 + dfG s so Mo r : Nat) : Int) (r : Int) (S, G, m) = c162_219 f 93 mp 1 rp ((mv0 + dfG s so Mo so.1.length : Nat) : Int) (S, G, m) := by
  obtain ⟨m1, m2, m3, m4, m5⟩ := hM
  have hnpo : so.1.length ≤ 16 := hoko.1.1
  have hle : ∀ k, k ≤ so.1.length → dfG s so Mo k ≤ 100 * k := by
    intro k
    induction k with
    | zero => intro _; exact Nat.le_refl _
    | succ k ih =>
      intro hk
      have i1 := ih (by omega)
      have i2 := hMl k (by omega)
      show dfG s so Mo k + (if lkB s so k = true then 0 else (Mo k).length) ≤ _
      split <;> omega
  intro d
  induction d with
  | zero =>
    intro r fu e1 e2
    obtain ⟨fu, rfl⟩ : ∃ t, fu = t + 1 := ⟨fu - 1, by omega⟩
    have e : r = so.1.length := by omega
    subst e
    exact st_161z' (r161 := c162_161 f fu) m1 m2 ho.1.1 ho.2.2.1.1
  | succ d ih =>
    intro r fu e1 e2
    obtain ⟨fu, rfl⟩ : ∃ t, fu = t + 1 := ⟨fu - 1, by omega⟩
    have hr : r < so.1.length := by omega
    have er : xwr ((r : Int) + 1) = ((r + 1 : Nat) : Int) := by rw [xwr_g _ (by omega) (by omega)]; omega
    obtain ⟨v, v1, v2⟩ := k_21 (f := f) (m := m) hf ho hP hoko hoks hr
    have hd := hle r (by omega)
    have i := ih (r + 1) fu (by omega) (by omega)
    have es : dfG s so Mo (r + 1) = dfG s so Mo r + (if lkB s so r = true then 0 else (Mo r).length) := rfl
    rcases v2 with ⟨p, rfl, p1, p2, p3⟩ | ⟨rfl, p1⟩
    · have hb : lkB s so r = true := lkB_t.mpr ⟨p, p1, p2, p3⟩
      rw [if_pos hb, Nat.add_zero] at es
      rw [es] at i
      exact (st_161y' (r161 := c162_161 f fu) hs h1 hP.1.1 m1 m2 ho.1.1 ho.2.2.1.1 hr v1 (by omega) (by rw [xwr_g _ (by omega) (by omega)]; omega) er).trans i
    · have hb : ¬ lkB s so r = true := fun q => by
        obtain ⟨p, q1, q2, q3⟩ := lkB_t.mp q
        exact p1 p q1 q2 q3
      rw [if_neg hb] at es
      rw [es] at i
      obtain ⟨n1, n2, n3⟩ := m5 r hr
      have hl := hMl r hr
      exact (st_161g' (r161 := c162_161 f fu) hs h1 hP.1.1 m1 m2 ho.1.1 ho.2.2.1.1 hr v1 m3 m4 n1 n3.1 n3.2.2.2.1.2.1 (by rw [xwr_g _ (by omega) (by omega)]; omega) er).trans i
theorem st_219 (hs : cSs S) (hB : 279 ≤ B) (hmp : mp < B) (h1 : G 93 1 = (q : Int)) (ms : S mp = (1, 2, 8)) (h7 : G mp 7 = e) (htk : tk = 0 ∨ tk = 1) (ee : xwr (e + tk) = e + tk) : c162_219 f 93 mp tk rp mv (S, G, (B, sl)) = some (B, (xup1 S B (1, 2, 8), xup2 (xup2 (xup2 (xup2 (xup2 (xz1 G B (fun _ => 0)) B 0 (q : Int)) B 1 (rp : Int)) B 4 mv) B 6 tk) B 7 (e + tk), (B + 1, sl + 8))) := by
  have s93' : xup1 S B (1, 2, 8) 93 = (1, 10, 18) := by rw [xup1_n (by omega)]; exact s93 hs
  have sB : xup1 S B (1, 2, 8) B = (1, 2, 8) := xup1_s _ _ _
  have ms' : xup1 S B (1, 2, 8) mp = (1, 2, 8) := by rw [xup1_n (by omega)]; exact ms
  have h1' : xz1 G B (fun _ => 0) 93 1 = (q : Int) := by rw [xz1_n _ (by omega)]; exact h1
  have h7' : xz1 G B (fun _ => 0) mp 7 = e := by rw [xz1_n _ (by omega)]; exact h7
  have hB0 : ¬ B = 0 := by omega
  have hne : ¬ mp = B := by omega
  have h10 : ¬ (1 : Int) = 0 := by decide
  rcases htk with rfl | rfl
  · unfold c162_219 c162_251 cq_nw cq_mk c14
    simp (disch := omega) only [cq_gi, cq_gr, cq_a, cq_s, cq_p, cq_pr, cq_is, cq_ar, cq_ab, cq_ln, xq_nz, Option.bind_some, xup2_n, xup2_s, Int.toNat_natCast, Int.reduceToNat, if_pos, if_neg, true_and, and_true, and_self, eq_self, if_true, reduceIte, not_true_eq_false, not_false_eq_true, or_true, true_or, s93', sB, ms', h1', h7', hB0, hne, ee]
  · unfold c162_219 c162_251 cq_nw cq_mk c14
    simp (disch := omega) only [cq_gi, cq_gr, cq_a, cq_s, cq_p, cq_pr, cq_is, cq_ar, cq_ab, cq_ln, xq_nz, Option.bind_some, xup2_n, xup2_s, Int.toNat_natCast, Int.reduceToNat, if_pos, if_neg, true_and, and_true, and_self, eq_self, if_true, reduceIte, not_true_eq_false, not_false_eq_true, or_true, true_or, s93', sB, ms', h1', h7', hB0, hne, ee, h10]
theorem st_162 {np : Nat} (hs : cSs S) (hB : 279 ≤ B) (hq : q < B) (h1 : G 93 1 = (q : Int)) (qs : S q = (1, 3, 14)) (hn : G q 1 = (np : Int)) (hn16 : np ≤ 16) : c162 f 93 mp tk (S, G, (B, sl)) = c162_17 f f 93 mp tk B 0 0 (xup1 S B (2, 10, np), xz1 G B (fun _ => 0), (B + 1, sl + np)) := by
  have ea : cq_an 5 (np : Int) (S, G, (B, sl)) = some (B, (xup1 S B (2, 10, np), xz1 G B (fun _ => 0), (B + 1, sl + np))) := by
    unfold cq_an cq_mk
    rw [if_pos ⟨by omega, by omega⟩, Int.toNat_natCast]
  unfold c162
  simp (disch := omega) only [cq_gi, cq_gr, cq_a, cq_s, cq_p, cq_pr, cq_is, cq_ar, cq_ab, cq_ln, xq_nz, Option.bind_some, xup2_n, xup2_s, Int.toNat_natCast, Int.reduceToNat, if_pos, if_neg, true_and, and_true, and_self, eq_self, if_true, reduceIte, not_true_eq_false, not_false_eq_true, or_true, true_or, s93 hs, h1, qs, hn, ea]
end
section
variable {f q qo nx nxo mp ro B sl : Nat} {S : Nat → Nat × Nat × Nat} {G : xG_} {s so : pPg} {xp cp yp ap xr cr : Nat → Nat} {R A Mo : Nat → List pRw} {ch : Nat} {tk e : Int}
/-- outcome() -/
theorem k_162 (hf : 600 < f) (hn : 279 ≤ B) (h : cWk S G q B s xp cp R) (hA : cAh S G B s yp ap A) (ho : cPgm S G qo B so) (hoko : qOk so) (hM : cMr S G B mp qo ro so xr cr Mo) (hmpB : mp < B) (hroB : ro < B) (hMl : ∀ r, r < so.1.length → (Mo r).length ≤ 100) (h13 : G 93 13 = (ch : Int)) (hch : ch < 2 ^ 16) (hcb : ∀ j, j < s.1.length → (ch.testBit j = true ↔ ¬ vEq (R j) (A j))) (hA1 : ∀ j, j < s.1.length → (A j).Pairwise rwLt ∧ (A j).length ≤ 100) (htk : tk = 0 ∨ tk = 1) (h7 : G mp 7 = e) (he : 0 ≤ e ∧ e ≤ 1000) :
    ∃ S' G' B' sl' xr' cr', c162 f 93 mp tk (S, G, (B, sl)) = some (B', (S', G', (B' + 1, sl'))) ∧ (∀ a, a < B → S' a = S a) ∧ (∀ a j, a < B → G' a j = G a j) ∧ B < B' ∧ B' ≤ B + 49 ∧ sl ≤ sl' ∧ sl' ≤ sl + 8088 ∧ cMr S' G' (B' + 1) B' q B s xr' cr' R ∧ (∀ j, j < s.1.length → B < xr' j ∨ xr' j = yp j ∨ xr' j = xp j ∧ 203 < xp j) ∧ G' B' 2 = 0 ∧ G' B' 3 = 0 ∧ G' B' 4 = ((dfS R A s.1.length + (if tk = 0 then 0 else dfG s so Mo so.1.length) : Nat) : Int) ∧ G' B' 5 = 0 ∧ G' B' 6 = tk ∧ G' B' 7 = e + tk := by
  obtain ⟨⟨a1, a2, a3, a4, a5, a6⟩, b⟩ := id h
  have hnp : s.1.length ≤ 16 := a6.1.1.1
  have hqB : q + 10 < B := a5.2.2.2.2.2.2.2.2
  have st0 := st_162 (f := f) (mp := mp) (tk := tk) (sl := sl) a1 hn (by omega) a3 a5.1.1 a5.2.2.1.1 hnp
  have hS0 : ∀ a, a < B → xup1 S B (2, 10, s.1.length) a = S a := fun a y => xup1_n (by omega)
  have hG0 : ∀ a j, a < B → xz1 G B (fun _ => 0) a j = G a j := fun a j y => xz1_n _ (by omega)
  obtain ⟨S1, G1, B1, sl1, i1, i2, i3, i4, i5, i6, i7, i8, i9⟩ := k_162i (f := f) (mp := mp) (tk := tk) (rp := B) hf hn (Nat.le_refl B) hch hcb hA1 s.1.length 0 f (xup1 S B (2, 10, s.1.length)) (xz1 G B (fun _ => 0)) (B + 1) (sl + s.1.length) (by omega) (by omega) (h.al hn hS0 hG0) (hA.al hn hS0 hG0) (by rw [hG0 _ _ (by omega)]; exact h13) (by omega) (xup1_s _ _ _) (fun j hj => absurd hj (Nat.not_lt_zero j))
  have hS1 : ∀ a, a < B → S1 a = S a := fun a y => by rw [i2 a (by omega), hS0 a y]
  have hG1 : ∀ a j, a < B → G1 a j = G a j := fun a j y => by rw [i3 a j (by omega) (by omega), hG0 a j y]
  have s1 := a1.al hn hS1
  have h11 : G1 93 1 = (q : Int) := by rw [hG1 _ _ (by omega)]; exact a3
  obtain ⟨m1, m2, m3, m4, m5⟩ := hM
  have hdS : dfS R A s.1.length ≤ 200 * s.1.length := by
    have key : ∀ k, k ≤ s.1.length → dfS R A k ≤ 200 * k := by
      intro k
      induction k with
      | zero => intro _; exact Nat.le_refl _
      | succ k ihk =>
        intro hk
        have h1 := ihk (by omega)
        have h2 := dfN_le (R := R k) (R2 := A k)
        have h3 := (b k (by omega)).2.2.2.2.1
        have h4 := (hA1 k (by omega)).2
        show dfS R A k + dfN (R k) (A k) ≤ _
        omega
    exact key _ (Nat.le_refl _)
  obtain ⟨mv, hmv⟩ : ∃ mv : Nat, mv = dfS R A s.1.length + (if tk = 0 then 0 else dfG s so Mo so.1.length) := ⟨_, rfl⟩
  have st1 : c162_161 f f 93 mp tk B ((dfS R A s.1.length : Nat) : Int) 0 (S1, G1, (B1, sl1)) = c162_219 f 93 mp tk B (mv : Int) (S1, G1, (B1, sl1)) := by
    rcases htk with rfl | rfl
    · obtain ⟨fu, rfl⟩ : ∃ t, f = t + 1 := ⟨f - 1, by omega⟩
      rw [if_pos rfl, Nat.add_zero] at hmv
      rw [hmv]
      exact st_161n' (r161 := c162_161 (fu + 1) fu) (r := 0)
    · rw [if_neg (by decide)] at hmv
      have hM1 : cMr S1 G1 B mp qo ro so xr cr Mo := ⟨by rw [hS1 _ hmpB]; exact m1, by rw [hG1 _ _ hmpB]; exact m2, by rw [hG1 _ _ hmpB]; exact m3, by rw [hS1 _ hroB]; exact m4, fun r hr => by
        obtain ⟨n1, n2, n3⟩ := m5 r hr
        exact ⟨by rw [hG1 _ _ hroB]; exact n1, n2, n3.ge (fun b _ _ => hS1 b (by omega)) (fun j => hG1 _ _ (by omega)) (fun j => hG1 _ _ (by omega)) (fun j => hG1 _ _ (by omega))⟩⟩
      have hnpo := hoko.1.1
      rw [hmv]
      exact k_161g (f := f) (m := (B1, sl1)) (rp := B) (by omega) s1 h11 (a5.ge (Nat.le_refl _) hS1 (fun a j _ y => hG1 a j y)) (ho.ge (Nat.le_refl _) hS1 (fun a j _ y => hG1 a j y)) a6.1 hoko hM1 hMl (dfS R A s.1.length) (by omega) so.1.length 0 f (by omega) (by omega)
  have st2 := st_219 (f := f) (e := e) (q := q) (mp := mp) (rp := B) (mv := (mv : Int)) (B := B1) (sl := sl1) s1 (by omega) (by omega) h11 (by rw [hS1 _ hmpB]; exact m1) (by rw [hG1 _ _ hmpB]; exact h7) htk (by rw [xwr_g _ (by omega) (by omega)])
  have st := (st0.trans i1).trans (st1.trans st2)
  have gz : ∀ a j, a < B1 → xup2 (xup2 (xup2 (xup2 (xup2 (xz1 G1 B1 (fun _ => 0)) B1 0 (q : Int)) B1 1 (B : Int)) B1 4 (mv : Int)) B1 6 tk) B1 7 (e + tk) a j = G1 a j := fun a j y => by
    rw [xup2_n (by omega), xup2_n (by omega), xup2_n (by omega), xup2_n (by omega), xup2_n (by omega), xz1_n _ (by omega)]
  have sz : ∀ a, a < B1 → xup1 S1 B1 (1, 2, 8) a = S1 a := fun a y => xup1_n (by omega)
  have hex : ∀ j, ∃ w : Nat × Nat, j < s.1.length → G1 B j = ((w.1 : Nat) : Int) ∧ (203 < w.1 ∧ w.1 + 2 < B1) ∧ cRw S1 G1 w.1 (qN s j) w.2 (R j) ∧ (B < w.1 ∨ w.1 = yp j ∨ w.1 = xp j ∧ 203 < xp j) := fun j => by
    by_cases hj : j < s.1.length
    · obtain ⟨x, c, y1, y2, yn, _, _, y3, y4⟩ := i9 j hj
      exact ⟨(x, c), fun _ => ⟨y1, y2, y3, y4.imp_left (fun z => Nat.lt_of_le_of_ne z (fun e => yn e.symm))⟩⟩
    · exact ⟨(0, 0), fun y => absurd y hj⟩
  obtain ⟨W, hW⟩ := Classical.axiomOfChoice hex
  refine ⟨_, _, B1, sl1 + 8, fun j => (W j).1, fun j => (W j).2, st, fun a y => by rw [sz a (by omega), hS1 a y], fun a j y => by rw [gz a j (by omega), hG1 a j y], by omega, by omega, by omega, by omega, ⟨xup1_s _ _ _, ?_, ?_, by rw [sz B (by omega)]; exact i8, fun j hj => ?_⟩, fun j hj => (hW j hj).2.2.2, ?_, ?_, ?_, ?_, ?_, ?_⟩
  · rw [xup2_n (by omega), xup2_n (by omega), xup2_n (by omega), xup2_n (by omega), xup2_s]
  · rw [xup2_n (by omega), xup2_n (by omega), xup2_n (by omega), xup2_s]
  · obtain ⟨y1, y2, y3, _⟩ := hW j hj
    exact ⟨by rw [gz _ _ (by omega)]; exact y1, ⟨y2.1, Nat.lt_succ_of_lt y2.2⟩, y3.ge (fun b _ _ => sz b (by omega)) (fun i => gz _ _ (by omega)) (fun i => gz _ _ (by omega)) (fun i => gz _ _ (by omega))⟩
  · rw [xup2_n (by omega), xup2_n (by omega), xup2_n (by omega), xup2_n (by omega), xup2_n (by omega), xz1_s]
  · rw [xup2_n (by omega), xup2_n (by omega), xup2_n (by omega), xup2_n (by omega), xup2_n (by omega), xz1_s]
  · rw [xup2_n (by omega), xup2_n (by omega), xup2_s, hmv]
  · rw [xup2_n (by omega), xup2_n (by omega), xup2_n (by omega), xup2_n (by omega), xup2_n (by omega), xz1_s]
  · rw [xup2_n (by omega), xup2_s]
  · rw [xup2_s]
end
