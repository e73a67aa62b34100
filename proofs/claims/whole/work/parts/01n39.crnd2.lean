section
/-! THE CLASS: round(), begin and tell -/
section
variable {f ln mo q : Nat} {S S1 : Nat → Nat × Nat × Nat} {G G1 : xG_} {m m1 : Nat × Nat}
theorem sw_173b {x3 b : Int} {r : Nat} {T : xT_} (hs : cSs S) (hp : cPs G) (hs1 : cSs S1) (hp1 : cPs G1) (s93 : S 93 = (1, 10, 18)) (s93' : S1 93 = (1, 10, 18)) (ls : S1 ln = (1, 1, 14)) (e1 : c145 f 93 mo q (S, G, m) = some (S1, G1, m1)) (h1 : G1 ln 1 = (r : Int)) (hr : r < 1000) (e2 : r + 1 < 520 → c146 f 93 ln (S1, G1, m1) = some (b, T)) : c173_43 f 64 ln mo x3 q (S, G, m) = if r + 1 < 520 then c173_88 f f 64 ln mo x3 q (if b = 0 then 0 else 1) 0 T else c173_88 f f 64 ln mo x3 q 0 0 (S1, G1, m1) := by
  have i1 : cq_is 10 18 93 (S, G, m) = some () := if_pos s93
  have i2 : cq_is 10 18 93 (S1, G1, m1) = some () := if_pos s93'
  have w : xwr ((r : Int) + 1) = ((r + 1 : Nat) : Int) := by rw [xwr_g _ (by omega) (by omega)]; omega
  unfold c173_43 c173_82 c173_83
  rw [o_gr (y := 93) (s64 hs) (p64_3 hp), Option.bind_some, i1, Option.bind_some, e1, Option.bind_some, o_gi ls, Option.bind_some, h1, w]
  by_cases c : r + 1 < 520
  · rw [if_neg (show ¬ (520 : Int) ≤ ((r + 1 : Nat) : Int) by omega), if_pos c, o_gr (y := 93) (s64 hs1) (p64_3 hp1), Option.bind_some, i2, Option.bind_some, e2 c, Option.bind_some]
    by_cases cb : b = 0
    · rw [if_pos cb, if_pos cb]
    · rw [if_neg cb, if_neg cb]
  · rw [if_pos (show (520 : Int) ≤ ((r + 1 : Nat) : Int) by omega), if_neg c]
/-- a round that can't be: its rings are not worked -/
theorem sw_173z {x3 x6 : Int} {fu : Nat} {T : xT_} : c173_88 f (fu + 1) 64 ln mo x3 q 0 x6 T = c173_127 f 64 ln mo x3 0 T := by
  show c173_88b (c173_88 f fu) f 64 _ _ _ _ _ _ _ = _
  unfold c173_88b
  rw [if_pos rfl]
end
end
section
/-! What a line keeps: rounds counted one by one, or by what the logs hold -/
/-- entries of one round -/
def lgC {α : Type} (l : List (Int × α)) (r : Nat) : Nat := (l.filter (fun a => decide (a.1 = (r : Int)))).length
theorem lgK_p1 {α : Type} {x : Int} : ∀ l : List (Int × α), (lgK (x - 1) l).length = (lgK x l).length + (l.filter (fun a => decide (a.1 = x))).length
  | [] => rfl
  | a :: l => by
    have ih := lgK_p1 (x := x) l
    unfold lgK at ih ⊢
    by_cases c1 : a.1 = x
    · rw [List.filter_cons_of_pos (by rw [decide_eq_true_iff]; omega), List.filter_cons_of_neg (by rw [decide_eq_true_iff]; omega), List.filter_cons_of_pos (by rw [decide_eq_true_iff]; exact c1), List.length_cons, List.length_cons]
      omega
    · by_cases c2 : x < a.1
      · rw [List.filter_cons_of_pos (by rw [decide_eq_true_iff]; omega), List.filter_cons_of_pos (by rw [decide_eq_true_iff]; exact c2), List.filter_cons_of_neg (by rw [decide_eq_true_iff]; exact c1), List.length_cons, List.length_cons]
        omega
      · rw [List.filter_cons_of_neg (by rw [decide_eq_true_iff]; omega), List.filter_cons_of_neg (by rw [decide_eq_true_iff]; exact c2), List.filter_cons_of_neg (by rw [decide_eq_true_iff]; exact c1)]
        exact ih
theorem lgK_sum {α : Type} {l : List (Int × α)} {g : Nat → Nat} {R old : Nat} (hR : ∀ a ∈ l, a.1 ≤ (R : Int)) (hg : ∀ r, old < r → r ≤ R → g r = lgC l r) : ∀ k, k ≤ R - old → (lgK ((R - k : Nat) : Int) l).length = sR9 g R k
  | 0, _ => by
    rw [Nat.sub_zero, lgK_nil hR]
    rfl
  | k + 1, h => by
    have ih := lgK_sum hR hg k (by omega)
    have e : ((R - (k + 1) : Nat) : Int) = ((R - k : Nat) : Int) - 1 := by omega
    rw [e, lgK_p1, ih]
    show _ = sR9 g R k + g (R - k)
    rw [hg (R - k) (by omega) (by omega)]
    rfl
/-- append() forgets as trim says -/
theorem tm_of {L : List pLg} {C : List pCg} {E : List pEg} {mv tl tk : Nat → Nat} {R old k : Nat} (ho : old ≤ R) (hL : ∀ a ∈ L, a.1 ≤ (R : Int)) (hC : ∀ a ∈ C, a.1 ≤ (R : Int)) (hE : ∀ a ∈ E, a.1 ≤ (R : Int)) (g1 : ∀ r, old < r → r ≤ R → mv r = lgC L r) (g2 : ∀ r, old < r → r ≤ R → tl r = lgC C r) (g3 : ∀ r, old < r → r ≤ R → tk r = lgC E r) (hk : k ≤ R - old) (h1 : okK9 mv tl tk R k) (h2 : ∀ k', k < k' → k' ≤ R - old → ¬ okK9 mv tl tk R k') : tmIs L C E (old : Int) ((R - k : Nat) : Int) := by
  have eq : ∀ k, k ≤ R - old → (tmOk L C E ((R - k : Nat) : Int) ↔ okK9 mv tl tk R k) := fun k hk => by
    unfold tmOk okK9
    rw [lgK_sum hL g1 k hk, lgK_sum hC g2 k hk, lgK_sum hE g3 k hk]
  refine ⟨by omega, (eq k hk).mpr h1, fun y y1 y2 hy => ?_⟩
  have e : y = ((R - (R - y.toNat) : Nat) : Int) := by omega
  rw [e] at hy
  exact h2 (R - y.toNat) (by omega) (by omega) ((eq _ (by omega)).mp hy)
end
section
/-! THE CLASS: the SHEET: settle(), the texts behind it -/
section
variable {be ln tp A sl n : Nat} {S0 S : Nat → Nat × Nat × Nat} {G0 G : xG_} {m : Nat × Nat} {u : Int} {X Y : fXs} {to lt : Nat → Nat}
/-- the texts that stand behind a round -/
def xN9 (G0 : xG_) (ln : Nat) (X Y : fXs) : fXs := fun c => if G0 (ln + 7) c = 0 then X c else Y c
def tN9 (G0 : xG_) (ln : Nat) (to lt : Nat → Nat) (c : Nat) : Nat := if G0 (ln + 7) c = 0 then to c else lt c
theorem tt_of (h : sI9 S0 G0 A sl be ln tp 72 S G m n u) (hA : 226 < A) (hT : cTt S0 G0 tp X to) (htp : tp < A ∧ tp ≠ be) (hto : ∀ c, c < 72 → to c + 2 < A ∧ (be < to c ∨ to c + 2 < be)) (hl : ∀ c, c < 72 → ¬ G0 (ln + 7) c = 0 → G0 (ln + 8) c = (lt c : Int) ∧ (lt c + 2 < A ∧ (be < lt c ∨ lt c + 2 < be)) ∧ (lt c = 0 ∧ Y c = none ∨ 226 < lt c ∧ ∃ e, Y c = some e ∧ cFm S0 G0 (lt c) e)) :
    ∃ tp2 : Nat, G be 2 = (tp2 : Int) ∧ (tp2 = tp ∧ n = 0 ∨ tp2 = A ∧ 0 < n) ∧ cTt S G tp2 (xN9 G0 ln X Y) (tN9 G0 ln to lt) := by
  obtain ⟨hS, hG, _, hc, _⟩ := h
  obtain ⟨t1, t2, t3⟩ := hT
  have fm : ∀ o e, o + 2 < A → (be < o ∨ o + 2 < be) → cFm S0 G0 o e → cFm S G o e := fun o e h1 h2 hF => hF.ge (fun a z1 z2 => hS a (by omega)) (fun a j z1 z2 => hG a j (by omega) (by omega))
  have one : ∀ c, c < 72 → ∀ v : Int, v = xT9 G0 ln tp 72 c → v = (tN9 G0 ln to lt c : Int) ∧ (tN9 G0 ln to lt c = 0 ∧ xN9 G0 ln X Y c = none ∨ 226 < tN9 G0 ln to lt c ∧ ∃ e, xN9 G0 ln X Y c = some e ∧ cFm S G (tN9 G0 ln to lt c) e) := fun c hc v hv => by
    unfold xT9 at hv
    unfold tN9 xN9
    by_cases q : G0 (ln + 7) c = 0
    · rw [if_neg (fun z => z.2 q)] at hv
      rw [if_pos q, if_pos q, hv]
      obtain ⟨a1, a2⟩ := t3 c hc
      refine ⟨a1, ?_⟩
      rcases a2 with w | ⟨w1, e, w2, w3⟩
      · exact .inl w
      · exact .inr ⟨w1, e, w2, fm _ _ (hto c hc).1 (hto c hc).2 w3⟩
    · rw [if_pos ⟨hc, q⟩] at hv
      rw [if_neg q, if_neg q, hv]
      obtain ⟨a1, ⟨a2, a3⟩, a4⟩ := hl c hc q
      refine ⟨a1, ?_⟩
      rcases a4 with w | ⟨w1, e, w2, w3⟩
      · exact .inl w
      · exact .inr ⟨w1, e, w2, fm _ _ a2 a3 w3⟩
  rcases hc with ⟨c1, c2, c3, c4, c5⟩ | ⟨c1, c2, c3, c4, c5, _⟩
  · refine ⟨tp, c2, .inl ⟨rfl, c1⟩, by rw [hS _ htp.1]; exact t1, t2, fun c hc => one c hc _ ?_⟩
    unfold xT9
    rw [if_neg (fun z => z.2 (c5 c hc)), hG _ _ htp.1 (fun z => htp.2 z.1)]
  · exact ⟨A, c2, .inr ⟨rfl, c1⟩, c3, hA, fun c hc => one c hc _ (c5 c hc)⟩
end
end
section
/-! No CELL is worked where nothing has changed -/
theorem cw_no {X : fXs} {s : pPg} {fr : Prop} {W : Nat → Int} {C D : fCs} {H : Nat → Prop} (hW : ∀ c, c < 72 → W c = -1) (hD : ∀ x, x < 72 → D x = C x) (hH : ∀ p, p < s.1.length → ¬ H p) (hf : ∀ c, c < 72 → X c ≠ none → ¬ fr) : ∀ c, c < 72 → ¬ qCw X s fr W C D H c := by
  rintro c hc ⟨h0, h | h | ⟨x, x1, _, x3⟩ | ⟨p, p1, _, p3⟩⟩
  · exact h (hW c hc)
  · exact hf c hc h0 h.1
  · exact x3 (hD x x1)
  · exact hH p p1 p3
end
section
/-! THE CLASS: the SHEET: settle() -/
theorem lnSt_of' {S S' : Nat → Nat × Nat × Nat} {ln : Nat} (h : lnSt S ln) (hS : ∀ a, ln ≤ a → a ≤ ln + 8 → S' a = S a) : lnSt S' ln := by
  obtain ⟨h0, h1, h2, h3, h4, h5, h6, h7, h8⟩ := h
  exact ⟨(hS _ (by omega) (by omega)).trans h0, (hS _ (by omega) (by omega)).trans h1, (hS _ (by omega) (by omega)).trans h2, (hS _ (by omega) (by omega)).trans h3, (hS _ (by omega) (by omega)).trans h4, (hS _ (by omega) (by omega)).trans h5, (hS _ (by omega) (by omega)).trans h6, (hS _ (by omega) (by omega)).trans h7, (hS _ (by omega) (by omega)).trans h8⟩
theorem lnPt_of' {G G' : xG_} {ln : Nat} (h : lnPt G ln) (hG : ∀ j, G' ln j = G ln j) : lnPt G' ln := by
  obtain ⟨h0, h1, h2, h3, h4, h5, h6, h7⟩ := h
  exact ⟨(hG _).trans h0, (hG _).trans h1, (hG _).trans h2, (hG _).trans h3, (hG _).trans h4, (hG _).trans h5, (hG _).trans h6, (hG _).trans h7⟩
theorem cTt.cg {S : Nat → Nat × Nat × Nat} {G : xG_} {tp : Nat} {X X' : fXs} {to to' : Nat → Nat} (h : cTt S G tp X to) (hX : ∀ c, c < 72 → X' c = X c) (ht : ∀ c, c < 72 → to' c = to c) : cTt S G tp X' to' := ⟨h.1, h.2.1, fun c hc => by rw [hX c hc, ht c hc]; exact h.2.2 c hc⟩
theorem tC9_c {G G' : xG_} {ln : Nat} : ∀ n, (∀ c, c < n → G' (ln + 7) c = G (ln + 7) c) → tC9 G' ln n = tC9 G ln n
  | 0, _ => rfl
  | n + 1, h => by
    show tC9 G' ln n + _ = tC9 G ln n + _
    rw [tC9_c n (fun c hc => h c (by omega)), h n (by omega)]
section
variable {f ah be ln tp ac A sl q rp nq : Nat} {S : Nat → Nat × Nat × Nat} {G : xG_} {s : pPg} {X X' Y : fXs} {to lt xr cr : Nat → Nat} {M : Nat → List pRw} {fr : Int} {ch : Nat} {C : fCs} {W : Nat → Int} {H : Nat → Prop}
theorem k_99s (hf : 700 < f) (hch : ch < 2147483648) (hs : cSs S) (hp : cPs G) (hA : 278 < A) (hb : S be = (1, 2, 8)) (hbA : 278 < be ∧ be < A) (hM : cMr S G A be q rp s xr cr M) (hP : cPgm S G q nq s) (hnq : nq ≤ be ∧ 226 < q ∧ (q + 1 < 243 ∨ 278 < q)) (hok : qOk s) (hoM : okM s M) (hl : ∀ p, p < s.1.length → (M p).length ≤ 100) (hrp : 278 < rp ∧ rp < A ∧ rp ≠ be) (hxr : ∀ p, p < s.1.length → (xr p + 2 < 216 ∨ 278 < xr p) ∧ (be < xr p ∨ xr p + 2 < be))
    (hT : cTt S G tp X to) (htp : tp < A ∧ tp ≠ be ∧ (tp < 243 ∨ 278 < tp)) (hto : ∀ c, c < 72 → to c + 2 < A ∧ (be < to c ∨ to c + 2 < be) ∧ (to c = 0 ∨ 278 < to c)) (h5 : G be 5 = 0) (h6 : G be 6 = fr)
    (ls : lnSt S ln) (lp : lnPt G ln) (hln : 242 < ln ∧ ln + 8 < 279) (ha : S ah = (1, 2, 8)) (haA : 226 < ah ∧ ah < A ∧ ah ≠ be) (h2 : G ah 2 = (tp : Int)) (h3 : G ah 3 = (ac : Int)) (hac : S ac = (2, 4, 72)) (hacA : 226 < ac ∧ ac < A ∧ ac ≠ be ∧ (ac < 243 ∨ 278 < ac)) (hC : okC C) (gC : ∀ x, x < 72 → G ac x = eC (C x))
    (hY : ∀ c, c < 72 → G (ln + 8) c = (lt c : Int) ∧ (lt c = 0 ∧ Y c = none ∨ 278 < lt c ∧ (lt c + 2 < A ∧ (be < lt c ∨ lt c + 2 < be)) ∧ ∃ e, Y c = some e ∧ cFm S G (lt c) e))
    (hX' : ∀ c, c < 72 → X' c = xN9 G ln X Y c) (hXg : ∀ c, 72 ≤ c → X' c = X c) (hoX : okX X') (hv : ∀ y, y < 72 → 0 ≤ G (ln + 3) y ∧ G (ln + 3) y ≤ 100000) (ht : ∀ y, ¬ G (ln + 7) y = 0 ↔ W y ≠ -1) (hH : ∀ p, p < s.1.length → (ch.testBit p = true ↔ H p))
    (hSm : ch = 0 → ¬ fr = 1 → ∀ x, x < 72 → fSh X s M x = C x) (hCn : (∀ c, c < 72 → X c = none) → ∀ x, x < 72 → C x = (0, 0)) (hH0 : (∀ p, ¬ H p) ∨ ¬ ch = 0) :
    ∃ (S' : Nat → Nat × Nat × Nat) (G' : xG_) (m' : Nat × Nat) (tp2 ac2 : Nat), c99 f 216 ah be ln (ch : Int) (S, G, (A, sl)) = some (S', G', m') ∧ (A ≤ m'.1 ∧ m'.1 ≤ A + 2 ∧ sl ≤ m'.2 ∧ m'.2 ≤ sl + 144) ∧ (∀ a, a < A → S' a = S a) ∧ (∀ a j, a < A → ¬ (a = be ∧ (j = 2 ∨ j = 3 ∨ j = 5)) → ¬ (a = 216 ∧ j ≤ 1) → ¬ (217 ≤ a ∧ a ≤ 219) → a ≠ ln + 3 → G' a j = G a j) ∧ G' be 5 = (tC9 G ln 72 : Int) ∧
      (G' be 2 = (tp2 : Int) ∧ (tp2 = tp ∨ A ≤ tp2 ∧ tp2 < m'.1) ∧ cTt S' G' tp2 X' (tN9 G ln to lt)) ∧ (G' be 3 = (ac2 : Int) ∧ (ac2 = ac ∨ A ≤ ac2 ∧ ac2 < m'.1) ∧ S' ac2 = (2, 4, 72) ∧ ∀ x, x < 72 → G' ac2 x = eC (fSh X' s M x)) ∧
      ∀ c, c < 72 → (qCw X' s (fr = 1) W C (fSh X' s M) H c → G' (ln + 3) c = G (ln + 3) c + 1) ∧ (¬ qCw X' s (fr = 1) W C (fSh X' s M) H c → G' (ln + 3) c = G (ln + 3) c) := by
  have hbb := ls
  obtain ⟨l0, _, _, l3, _, _, _, l7, l8⟩ := ls
  have lpp := lp
  obtain ⟨_, _, p6, _, _, _, p12, p13⟩ := lp
  have n2 : ∀ a j, ¬ (a = 216 ∧ j = 0) → ¬ (a = be ∧ (j = 2 ∨ j = 3)) → sG9 G be tp ac a j = G a j := fun a j y1 y2 => sG9_n y1 y2
  obtain ⟨g0, g2, g3⟩ := sG9_s (G := G) (be := be) (tp := tp) (ac := ac) (by omega)
  have hE : sE9 S (sG9 G be tp ac) A ah be ln tp := ⟨⟨hbA.2, haA.2.1, by omega, htp.1⟩, ⟨hb, ha, by rw [n2 _ _ (by omega) (by omega)]; exact h2, hT.1⟩, ⟨by omega, by omega, by omega, by omega, by omega⟩, ⟨l0, l7, l8, by rw [n2 _ _ (by omega) (by omega)]; exact p12, by rw [n2 _ _ (by omega) (by omega)]; exact p13⟩, fun y hy => by
      refine ⟨lt y, by rw [n2 _ _ (by omega) (by omega)]; exact (hY y hy).1, ?_⟩
      rcases (hY y hy).2 with w | ⟨w1, w2, e, w3, C0, F0, w4, _⟩
      · exact .inl w.1
      · exact .inr ⟨w4.1, by omega⟩, fun y hy => ⟨to y, by rw [n2 _ _ (by have := hT.2.1; omega) (by omega)]; exact (hT.2.2 y hy).1⟩⟩
  obtain ⟨fu, S1, G1, m1, n, u, e1, hI⟩ := k_99a (f := f) (ch := (ch : Int)) (sl := sl) (by omega) hs hb ha ⟨by omega, by omega, by omega⟩ h2 h3 h5 hE
  have fm : ∀ o e, o + 2 < A → (be < o ∨ o + 2 < be) → 278 < o → cFm S G o e → cFm S (sG9 G be tp ac) o e := fun o e y1 y2 y3 hF => hF.ge (fun _ _ _ => rfl) (fun a j z1 z2 => n2 _ _ (by omega) (by omega))
  have hT0 : cTt S (sG9 G be tp ac) tp X to := hT.lt htp.1 (fun c hc => (hto c hc).1) (fun _ _ => rfl) (fun c hc => n2 _ _ (by have := hT.2.1; omega) (by omega)) (fun c hc z a j y1 y2 => n2 _ _ (by omega) (by have := hto c hc; omega))
  have xe : ∀ c, c < 72 → sG9 G be tp ac (ln + 7) c = G (ln + 7) c := fun c hc => n2 _ _ (by omega) (by omega)
  obtain ⟨tp2, t1, t2, t3⟩ := tt_of hI (by omega) hT0 ⟨htp.1, htp.2.1⟩ (fun c hc => ⟨(hto c hc).1, (hto c hc).2.1⟩) (lt := lt) (Y := Y) (fun c hc _ => ⟨by rw [n2 _ _ (by omega) (by omega)]; exact (hY c hc).1, by
      rcases (hY c hc).2 with w | ⟨w1, w2, _⟩
      · omega
      · exact w2, by
      rcases (hY c hc).2 with w | ⟨w1, w2, e, w3, w4⟩
      · exact .inl w
      · exact .inr ⟨by omega, e, w3, fm _ _ w2.1 w2.2 w1 w4⟩⟩)
  have tN : ∀ c, c < 72 → tN9 (sG9 G be tp ac) ln to lt c = tN9 G ln to lt c := fun c hc => by unfold tN9; rw [xe c hc]
  have xN : ∀ c, c < 72 → X' c = xN9 (sG9 G be tp ac) ln X Y c := fun c hc => by rw [hX' c hc]; unfold xN9; rw [xe c hc]
  have hT1 : cTt S1 G1 tp2 X' (tN9 G ln to lt) := t3.cg xN (fun c hc => (tN c hc).symm)
  obtain ⟨i1, i2, ⟨i3, i4, i5⟩, i6, i7⟩ := hI
  rw [tC9_c 72 xe] at i5
  have hb1 : S1 be = (1, 2, 8) := by rw [i1 _ hbA.2]; exact hb
  have z1 : ∀ a j, a < A → ¬ (a = be ∧ (j = 2 ∨ j = 3 ∨ j = 5)) → ¬ (a = 216 ∧ j = 0) → G1 a j = G a j := fun a j y1 y2 y3 => by rw [i2 _ _ y1 (by omega), n2 _ _ y3 (by omega)]
  have h61 : G1 be 6 = fr := by rw [z1 _ _ hbA.2 (by omega) (by omega)]; exact h6
  have e2 := sw_99e (f := f) (ah := ah) (ln := ln) (u := u) (m := m1) (fu := fu) (ci := (ch : Int)) hb1 i3 h61
  have tto : ∀ c, c < 72 → tN9 G ln to lt c + 2 < A ∧ (be < tN9 G ln to lt c ∨ tN9 G ln to lt c + 2 < be) ∧ (tN9 G ln to lt c = 0 ∨ 278 < tN9 G ln to lt c) := fun c hc => by
    unfold tN9
    by_cases w : G (ln + 7) c = 0
    · rw [if_pos w]; exact hto c hc
    · rw [if_neg w]
      rcases (hY c hc).2 with w | ⟨w1, w2, _⟩
      · omega
      · exact ⟨w2.1, w2.2, .inr w1⟩
  have m1c : n = 0 ∧ m1 = (A, sl) ∧ tp2 = tp ∨ 0 < n ∧ m1 = (A + 1, sl + 72) ∧ tp2 = A := by
    rcases i6 with ⟨c1, c2, c3, _⟩ | ⟨c1, c2, _, c4, _⟩
    · rcases t2 with ⟨w1, _⟩ | ⟨_, w2⟩
      · exact .inl ⟨c1, c3, w1⟩
      · omega
    · rcases t2 with ⟨_, w2⟩ | ⟨w1, _⟩
      · omega
      · exact .inr ⟨c1, c4, w1⟩
  by_cases an : 0 < n ∨ (¬ u = 0 ∧ (¬ (ch : Int) = 0 ∨ fr = 1))
  · rw [if_pos an] at e2
    obtain ⟨A1, s1⟩ := m1
    have mb : A ≤ A1 ∧ A1 ≤ A + 1 ∧ sl ≤ s1 ∧ s1 ≤ sl + 72 ∧ tp2 < A1 ∧ tp2 ≠ be ∧ (tp2 < 243 ∨ 278 < tp2) ∧ (tp2 = tp ∨ A ≤ tp2 ∧ tp2 < A1) := by
      rcases m1c with ⟨_, w1, w2⟩ | ⟨_, w1, w2⟩
      · injection w1 with v1 v2
        omega
      · injection w1 with v1 v2
        omega
    clear i6 i7 t2 m1c hE
    have cs1 : cSs S1 := fun k hk => by rw [i1 _ (by omega)]; exact hs k hk
    have cp1 : cPs G1 := hp.ge (fun a j hz => z1 a j (by
      rcases hz with z | z | z | z | z | z | z | ⟨z, z1, z2, k, z3⟩ | z | z | z | ⟨k, z1, z2, z3⟩ <;> omega) (by
      rcases hz with z | z | z | z | z | z | z | ⟨z, z1, z2, k, z3⟩ | z | z | z | ⟨k, z1, z2, z3⟩ <;> omega) (by
      rcases hz with z | z | z | z | z | z | z | ⟨z, z1, z2, k, z3⟩ | z | z | z | ⟨k, z1, z2, z3⟩ <;> omega))
    have hM1 : cMr S1 G1 A1 be q rp s xr cr M := hM.ge2 mb.1 (fun a hz => i1 a (by
      rcases hz with z | z | ⟨p, hp, y1, y2⟩
      · omega
      · omega
      · have := (hM.2.2.2.2 p hp).2.1; omega)) (fun a j hz => by
      rcases hz with ⟨z, zj⟩ | z | ⟨p, hp, y1, y2⟩
      · exact z1 a j (by omega) (by omega) (by omega)
      · exact z1 a j (by omega) (by omega) (by omega)
      · have u1 := (hM.2.2.2.2 p hp).2.1
        have u2 := hxr p hp
        exact z1 a j (by omega) (by omega) (by omega))
    have hP1 : cPgm S1 G1 q nq s := hP.ge (Nat.le_refl _) (fun a y => i1 a (by omega)) (fun a j y1 y2 => z1 a j (by omega) (by omega) (by omega))
    have ls1 : lnSt S1 ln := lnSt_of' hbb (fun a y1 y2 => i1 a (by omega))
    have lp1 : lnPt G1 ln := lnPt_of' lpp (fun j => z1 _ _ (by omega) (by omega) (by omega))
    obtain ⟨S2, G2, b1, b2, b3, b4, b5, b6, b7⟩ := k_99z (f := f) (A := A1) (sl := s1) (X := X') (C := C) (W := W) (H := H) hf hch cs1 cp1 (by omega) hb1 ⟨hbA.1, by omega⟩ (by rw [i2 _ _ (by omega) (by omega)]; exact g0) hM1 hP1 hnq hok hoM hl ⟨hrp.1, by omega, hrp.2.2⟩ hxr t1 hT1 ⟨mb.2.2.2.2.1, mb.2.2.2.2.2.1, mb.2.2.2.2.2.2.1⟩ (fun c hc => by have := tto c hc; omega) hoX h61 ls1 lp1 hln (by rw [i1 _ haA.2.1]; exact ha) ⟨haA.1, by omega, haA.2.2⟩ (by rw [z1 _ _ haA.2.1 (by omega) (by omega)]; exact h3) (by rw [i1 _ hacA.2.1]; exact hac) ⟨hacA.1, by omega, hacA.2.2.1⟩ hC (fun x hx => by rw [z1 _ _ hacA.2.1 (by omega) (by omega)]; exact gC x hx) (fun y hy => by rw [z1 _ _ (by omega) (by omega) (by omega)]; exact hv y hy) (fun y => by rw [z1 _ _ (by omega) (by omega) (by omega)]; exact ht y) hH
    refine ⟨S2, G2, (A1 + 1, s1 + 72), tp2, A1, (e1.trans e2).trans b1, ⟨?_, ?_, ?_, ?_⟩, fun a y => by rw [b2 a (by omega), i1 a y], fun a j y1 y2 y3 y4 y5 => by rw [b4 a j (by omega) (by omega) (by omega) y4 y5, z1 a j y1 y2 (by omega)], ?_, ⟨?_, ?_, ?_⟩, ⟨b5, .inr ⟨mb.1, Nat.lt_succ_self _⟩, b3, b6⟩, fun c hc => ?_⟩
    · show A ≤ A1 + 1; omega
    · show A1 + 1 ≤ A + 2; omega
    · show sl ≤ s1 + 72; omega
    · show s1 + 72 ≤ sl + 144; omega
    · rw [b4 _ _ (by omega) (by omega) (by omega) (by omega) (by omega), i3, i5]
    · rw [b4 _ _ (by omega) (by omega) (by omega) (by omega) (by omega)]; exact t1
    · rcases mb.2.2.2.2.2.2.2 with w | w
      · exact .inl w
      · exact .inr ⟨w.1, Nat.lt_succ_of_lt w.2⟩
    · exact hT1.lt mb.2.2.2.2.1 (fun c hc => by have := tto c hc; omega) b2 (fun c hc => b4 _ _ mb.2.2.2.2.1 (by omega) (by have := hT1.2.1; omega) (by have := hT1.2.1; omega) (by omega)) (fun c hc w a j y1 y2 => by
        have := tto c hc
        exact b4 _ _ (by omega) (by omega) (by omega) (by omega) (by omega))
    · have := b7 c hc
      rw [z1 (ln + 3) c (by omega) (by omega) (by omega)] at this
      exact this
  · rw [if_neg an] at e2
    rcases m1c with ⟨w0, w1, w2⟩ | ⟨w0, _⟩
    · rw [w0] at i5 i3
      have nt : ∀ n, tC9 G ln n = 0 → ∀ c, c < n → G (ln + 7) c = 0 := by
        intro n
        induction n with
        | zero => intro _ c hc; omega
        | succ n ih =>
          intro h c hc
          have h' : tC9 G ln n + (if G (ln + 7) n = 0 then 0 else 1) = 0 := h
          by_cases q : G (ln + 7) n = 0
          · rw [if_pos q] at h'
            rcases (by omega : c = n ∨ c < n) with rfl | w
            · exact q
            · exact ih (by omega) c w
          · rw [if_neg q] at h'; omega
      have nt := nt 72 i5.symm
      have xx : X' = X := funext fun c => by
        by_cases q : c < 72
        · rw [hX' c q]; unfold xN9; rw [if_pos (nt c q)]
        · exact hXg c (by omega)
      have tt : ∀ c, c < 72 → tN9 G ln to lt c = to c := fun c hc => by unfold tN9; rw [if_pos (nt c hc)]
      have hW : ∀ c, c < 72 → W c = -1 := fun c hc => Classical.byContradiction fun z => (ht c).mpr z (nt c hc)
      have un : u = 0 → ∀ c, c < 72 → X c = none := fun hu c hc => by
        rcases i7 with ⟨k1, _⟩ | ⟨_, k2⟩
        · rw [hu] at k1; cases k1
        · have q0 : xT9 (sG9 G be tp ac) ln tp 72 c = 0 := Classical.byContradiction fun z => k2 ⟨c, hc, z⟩
          unfold xT9 at q0
          rw [if_neg (fun z => z.2 (by rw [xe c hc]; exact nt c hc)), (hT0.2.2 c hc).1] at q0
          rcases (hT0.2.2 c hc).2 with w | ⟨w, _⟩
          · exact w.2
          · omega
      have sm : ∀ x, x < 72 → fSh X s M x = C x := fun x hx => by
        by_cases hu : u = 0
        · rw [fSh_no (xx ▸ hoX) hx (un hu x hx), hCn (un hu) x hx]
        · by_cases hc : ch = 0
          · by_cases hfr : fr = 1
            · exact absurd (.inr ⟨hu, .inr hfr⟩) an
            · exact hSm hc hfr x hx
          · exact absurd (.inr ⟨hu, .inl (by omega)⟩) an
      have nc : ∀ c, c < 72 → ¬ qCw X' s (fr = 1) W C (fSh X' s M) H c := by
        by_cases hu : u = 0
        · exact fun c hc z => z.1 (by rw [xx]; exact un hu c hc)
        · have hc : ch = 0 := Classical.byContradiction fun z => an (.inr ⟨hu, .inl (by omega)⟩)
          have hfr : ¬ fr = 1 := fun z => an (.inr ⟨hu, .inr z⟩)
          refine cw_no hW (fun x hx => by rw [xx]; exact sm x hx) (fun p _ => ?_) (fun c hc _ => hfr)
          rcases hH0 with z | z
          · exact z p
          · exact absurd hc z
      refine ⟨S1, G1, m1, tp2, ac, e1.trans e2, ?_, i1, fun a j y1 y2 y3 y4 y5 => z1 a j y1 y2 (by omega), by rw [i3, i5], ⟨t1, .inl w2, hT1⟩, ⟨?_, .inl rfl, ?_, fun x hx => ?_⟩, fun c hc => ⟨fun z => absurd z (nc c hc), fun _ => z1 _ _ (by omega) (by omega) (by omega)⟩⟩
      · rw [w1]
        exact ⟨Nat.le_refl _, by show A ≤ A + 2; omega, Nat.le_refl _, by show sl ≤ sl + 144; omega⟩
      · rw [i2 _ _ hbA.2 (by omega)]; exact g3
      · rw [i1 _ hacA.2.1]; exact hac
      · rw [z1 _ _ hacA.2.1 (by omega) (by omega), gC x hx, xx, sm x hx]
    · exact absurd (.inl w0) an
end
end
section
/-! THE CLASS: the house: programs, moments -/
/-- no call changes what was made: rows that are never there, the moment nothing, all that calls made -/
def xSf (A : Nat) (G G' : xG_) : Prop := ∀ a j, a < A → (203 < a ∧ a < 216 ∨ 227 < a ∧ a < 243 ∨ 555 < a) → G' a j = G a j
def sfP (A a : Nat) : Prop := a < A ∧ (227 < a ∧ a < 243 ∨ 555 < a)
/-- the program of the text e stands at q -/
def cPx (T : List (List Int)) (S : Nat → Nat × Nat × Nat) (G : xG_) (A q e : Nat) : Prop := ∃ s nq, qPr (T.getD e []) = .inr s ∧ qOc s ∧ cPgm S G q nq s ∧ nq ≤ A ∧ (q = 229 ∧ nq ≤ 243 ∨ 555 < q)
/-- a moment of the class -/
def cMo (T : List (List Int)) (S : Nat → Nat × Nat × Nat) (G : xG_) (A : Nat) (P : Nat → Nat) (mp : Nat) (mo : sMo) : Prop :=
  ∃ (s : pPg) (M : Nat → List pRw) (rp : Nat) (xr cr : Nat → Nat) (tp ac : Nat) (to : Nat → Nat), isMo T mo s M ∧ okM8 s M ∧ cMr S G A mp (P mo.1) rp s xr cr M ∧ (G mp 2 = (tp : Int) ∧ cTt S G tp (xOf T mo.2.2.1) to) ∧ (G mp 3 = (ac : Int) ∧ S ac = (2, 4, 72) ∧ ∀ x, x < 72 → G ac x = eC (fSh (xOf T mo.2.2.1) s M x)) ∧ P mo.1 ≠ 0 ∧
    (sfP A mp ∧ sfP A rp ∧ sfP A tp ∧ sfP A ac) ∧ (∀ p, p < s.1.length → xr p + 2 < 216 ∨ 555 < xr p) ∧ ∀ c, c < 72 → to c = 0 ∨ 555 < to c ∧ to c + 2 < A
section
variable {T : List (List Int)} {S S' : Nat → Nat × Nat × Nat} {G G' : xG_} {A A' q e mp : Nat} {P P' : Nat → Nat} {mo : sMo}
theorem cPx.ge (h : cPx T S G A q e) (hA : A ≤ A') (hS : ∀ a, a < A → S' a = S a) (hG : xSf A G G') : cPx T S' G' A' q e := by
  obtain ⟨s, nq, a1, a2, a3, a4, a5⟩ := h
  exact ⟨s, nq, a1, a2, a3.ge (Nat.le_refl _) (fun a y => hS a (by omega)) (fun a j y1 y2 => hG a j (by omega) (by omega)), by omega, a5⟩
theorem cPx.app (t : List Int) (h : cPx T S G A q e) (he : e < T.length) : cPx (T ++ [t]) S G A q e := by
  obtain ⟨s, nq, a1, a2⟩ := h
  exact ⟨s, nq, by rw [getD_app _ he]; exact a1, a2⟩
theorem cMo.ge (h : cMo T S G A P mp mo) (hA : A ≤ A') (hS : ∀ a, a < A → S' a = S a) (hG : xSf A G G') : cMo T S' G' A' P mp mo := by
  obtain ⟨s, M, rp, xr, cr, tp, ac, to, a1, a2, a3, ⟨a4, a5⟩, ⟨a6, a7, a8⟩, a9, ⟨b1, b2, b3, b4⟩, b5, b6⟩ := h
  have up : ∀ {a : Nat}, sfP A a → sfP A' a := fun {a} z => ⟨Nat.lt_of_lt_of_le z.1 hA, z.2⟩
  have gm : ∀ {a : Nat} (j : Nat), sfP A a → G' a j = G a j := fun {a} j z => hG a j z.1 (.inr z.2)
  refine ⟨s, M, rp, xr, cr, tp, ac, to, a1, a2, a3.ge2 hA (fun a hz => hS a (by
    rcases hz with z | z | ⟨p, hp, y1, y2⟩
    · rw [z]; exact b1.1
    · rw [z]; exact b2.1
    · have := (a3.2.2.2.2 p hp).2.1; omega)) (fun a j hz => by
    rcases hz with ⟨z, zj⟩ | z | ⟨p, hp, y1, y2⟩
    · rw [z]; exact gm j b1
    · rw [z]; exact gm j b2
    · have u1 := (a3.2.2.2.2 p hp).2.1
      have u2 := b5 p hp
      exact hG a j (by omega) (by omega)), ⟨by rw [gm _ b1]; exact a4, a5.lt b3.1 (fun c hc => by
    have := b6 c hc
    have := b3
    unfold sfP at this
    omega) hS (fun c hc => gm _ b3) (fun c hc z a j y1 y2 => by
    have := b6 c hc
    exact hG a j (by omega) (by omega))⟩, ⟨by rw [gm _ b1]; exact a6, by rw [hS _ b4.1]; exact a7, fun x hx => by rw [gm _ b4]; exact a8 x hx⟩, a9, ⟨up b1, up b2, up b3, up b4⟩, b5, fun c hc => ?_⟩
  rcases b6 c hc with z | z
  · exact .inl z
  · exact .inr ⟨z.1, by omega⟩
theorem cMo.app (t : List Int) (h : cMo T S G A P mp mo) (hP : ∀ e, e < T.length → P' e = P e) : cMo (T ++ [t]) S G A P' mp mo := by
  obtain ⟨s, M, rp, xr, cr, tp, ac, to, a1, a2, a3, ⟨a4, a5⟩, ⟨a6, a7, a8⟩, a9, b⟩ := h
  have hk := a1.2.2.2.2.2.2.1
  have e1 := hP _ a1.1
  have e2 := xOf_app t hk
  refine ⟨s, M, rp, xr, cr, tp, ac, to, a1.app t, a2, by rw [e1]; exact a3, ⟨a4, by rw [e2]; exact a5⟩, ⟨a6, a7, by rw [e2]; exact a8⟩, by rw [e1]; exact a9, b⟩
end
/-- programs: P tells where that of the text e stands (0: none) -/
def cEd (T : List (List Int)) (S : Nat → Nat × Nat × Nat) (G : xG_) (A : Nat) (P : Nat → Nat) : Prop := (∀ e, P e ≠ 0 → e < T.length ∧ cPx T S G A (P e) e ∧ 0 ≤ G (P e) 0 ∧ G (P e) 0 ≤ G 64 7) ∧ ∀ e e', P e ≠ 0 → P e' ≠ 0 → G (P e) 0 = G (P e') 0 → e = e'
/-- the texts that CELLS were told -/
def cCt (T : List (List Int)) (S : Nat → Nat × Nat × Nat) (G : xG_) (A ln : Nat) (W : Nat → Int) : Prop := ∃ lt : Nat → Nat, ∀ c, c < 72 → (G (ln + 7) c = 0 ↔ W c = -1) ∧ G (ln + 8) c = (lt c : Int) ∧ (lt c = 0 ∧ xOf T (fun c => (W c).toNat) c = none ∨ 555 < lt c ∧ lt c + 2 < A ∧ ∃ e, xOf T (fun c => (W c).toNat) c = some e ∧ cFm S G (lt c) e)
/-- rounds of a line -/
def cRo (T : List (List Int)) (S : Nat → Nat × Nat × Nat) (G : xG_) (A : Nat) (P : Nat → Nat) (ln : Nat) (H : Nat → sMo) (b k ed : Nat) : Prop := (G ln 1 = ((b + k : Nat) : Int) ∧ G ln 2 = (b : Int)) ∧ ∃ mp : Nat → Nat, (∀ r, b ≤ r → r ≤ b + k → G (ln + 1) r = (mp r : Int) ∧ cMo T S G A P (mp r) (H r) ∧ ∃ x : Nat, G (mp r) 7 = (x : Int) ∧ x + (hCat (hEg H) r (b + k - r)).length = ed) ∧ ∀ r, b < r → r ≤ b + k → G (mp r) 4 = ((hLg H r).length : Int) ∧ G (mp r) 5 = ((hCg H r).length : Int) ∧ G (mp r) 6 = ((hEg H r).length : Int)
/-- a line of the class -/
def cLn (T : List (List Int)) (S : Nat → Nat × Nat × Nat) (G : xG_) (A : Nat) (P : Nat → Nat) (ln : Nat) (l : sLn) : Prop :=
  cRo T S G A P ln l.1 l.2.1.1 l.2.1.2.1 l.2.1.2.2 ∧ ((∀ p, p < 16 → G (ln + 2) p = l.2.2.1.1 p) ∧ ∀ c, c < 72 → G (ln + 3) c = l.2.2.1.2.1 c) ∧
  (l.2.2.2.1.2.1 = -1 ∧ G ln 7 = 0 ∨ 0 ≤ l.2.2.2.1.2.1 ∧ P l.2.2.2.1.2.1.toNat ≠ 0 ∧ G ln 7 = ((P l.2.2.2.1.2.1.toNat : Nat) : Int)) ∧ (∃ s, qPr (T.getD (lnE l) []) = .inr s ∧ cPn G ln s l.2.2.2.1.1) ∧ cCt T S G A ln l.2.2.2.1.2.2 ∧ G ln 3 = l.2.2.2.2.1 ∧ (l.2.2.2.2.1 ≠ -1 → G ln 4 = l.2.2.2.2.2)
/-- rows of answers; where there is none, their width is nothing -/
def cKw (S : Nat → Nat × Nat × Nat) (G : xG_) (an : Nat) (kp : Nat × List (List Int)) : Prop := ∃ W : Nat, (kp.2 ≠ [] → W = kp.1) ∧ cRw S G an W 500 (kp.2.map (fun v => (v, 0)))
theorem cKw.ge {S S' : Nat → Nat × Nat × Nat} {G G' : xG_} {an : Nat} {kp : Nat × List (List Int)} (h : cKw S G an kp) (hS : ∀ a, an ≤ a → a ≤ an + 2 → S' a = S a) (h0 : ∀ j, G' an j = G an j) (h1 : ∀ j, G' (an + 1) j = G (an + 1) j) (h2 : ∀ j, G' (an + 2) j = G (an + 2) j) : cKw S' G' an kp := by
  obtain ⟨W, w1, w2⟩ := h
  exact ⟨W, w1, w2.ge hS h0 h1 h2⟩
/-- what answers are kept -/
def cKp (S : Nat → Nat × Nat × Nat) (G : xG_) (kp : Nat × List (List Int)) : Prop := ∃ an sp : Nat, (an = 221 ∧ sp = 224 ∨ an = 224 ∧ sp = 221) ∧ G 64 10 = (an : Int) ∧ G 64 11 = (sp : Int) ∧ cKw S G an kp
/-- what merge met -/
def cMt (G : xG_) (mt : Int × List Int) : Prop := G 64 15 = mt.1 ∧ G 64 16 = (mt.2.length : Int) ∧ mt.2.length ≤ 4 ∧ ∀ j, j < mt.2.length → G 227 j = mt.2.getD j 0
/-- the round whose edits are told -/
def cEe (T : List (List Int)) (S : Nat → Nat × Nat × Nat) (G : xG_) (A : Nat) (P : Nat → Nat) (l : sLn) : Prop := (l.2.2.1.2.2 = false → G 64 13 = 0) ∧ (l.2.2.1.2.2 = true → ∃ ea eb : Nat, G 64 12 = (ea : Int) ∧ G 64 13 = (eb : Int) ∧ cMo T S G A P ea (l.1 (l.2.1.1 + l.2.1.2.1 - 1)) ∧ cMo T S G A P eb (lMo l))
/-- the class stands at the house's state; n calls were done -/
def cHs (S : Nat → Nat × Nat × Nat) (G : xG_) (A : Nat) (H : sHs) (n : Nat) : Prop := match H with
  | (T, lns, hr, tx, kp, mt, pl, rf) => (cSs S ∧ cPs G ∧ cEm G ∧ 555 < A) ∧ (∃ P, cEd T S G A P ∧ (∀ y, y < 4 → cLn T S G A P (243 + 9 * y) (lns y)) ∧ cEe T S G A P (lns hr)) ∧ (hr < 4 ∧ G 64 6 = (hr : Int)) ∧ (0 ≤ G 64 7 ∧ G 64 7 ≤ n) ∧ G 64 8 = rf ∧ G 64 9 = pl ∧ cTx G (tBt tx) tx.length ∧ cKp S G kp ∧ cMt G mt
end
section
/-! THE CLASS: the house: what stays -/
section
variable {T : List (List Int)} {S S' : Nat → Nat × Nat × Nat} {G G' : xG_} {A A' ln : Nat} {P P' : Nat → Nat} {l : sLn} {H : Nat → sMo} {b k ed n n' : Nat} {W : Nat → Int} {kp : Nat × List (List Int)} {mt : Int × List Int}
theorem cEd.ge (h : cEd T S G A P) (hA : A ≤ A') (hS : ∀ a, a < A → S' a = S a) (hG : xSf A G G') (h7 : G 64 7 ≤ G' 64 7) : cEd T S' G' A' P := by
  have g0 : ∀ e, P e ≠ 0 → G' (P e) 0 = G (P e) 0 := fun e he => by
    obtain ⟨_, ⟨s, nq, _, _, a3, a4, a5⟩, _⟩ := h.1 e he
    have := a3.2.2.2.2.2.2.2.2
    exact hG _ _ (by omega) (by omega)
  refine ⟨fun e he => ?_, fun e e' he he' z => h.2 e e' he he' (by rw [← g0 e he, ← g0 e' he']; exact z)⟩
  obtain ⟨a1, a2, a3, a4⟩ := h.1 e he
  exact ⟨a1, a2.ge hA hS hG, by rw [g0 e he]; exact a3, by rw [g0 e he]; omega⟩
theorem cRo.ge (h : cRo T S G A P ln H b k ed) (hA : A ≤ A') (hS : ∀ a, a < A → S' a = S a) (hG : xSf A G G') (hl : G' ln 1 = G ln 1 ∧ G' ln 2 = G ln 2 ∧ ∀ j, b ≤ j → j ≤ b + k → G' (ln + 1) j = G (ln + 1) j) : cRo T S' G' A' P ln H b k ed := by
  obtain ⟨⟨h1, h2⟩, mp, h3, h4⟩ := h
  have gm : ∀ r, b ≤ r → r ≤ b + k → ∀ j, G' (mp r) j = G (mp r) j := fun r r1 r2 j => by
    obtain ⟨_, ⟨s, M, rp, xr, cr, tp, ac, to, _, _, _, _, _, _, ⟨z, _⟩, _⟩, _⟩ := h3 r r1 r2
    exact hG _ _ z.1 (.inr z.2)
  refine ⟨⟨by rw [hl.1]; exact h1, by rw [hl.2.1]; exact h2⟩, mp, fun r r1 r2 => ?_, fun r r1 r2 => ?_⟩
  · obtain ⟨a1, a2, x, a3, a4⟩ := h3 r r1 r2
    exact ⟨by rw [hl.2.2 r r1 r2]; exact a1, a2.ge hA hS hG, x, by rw [gm r r1 r2]; exact a3, a4⟩
  · have := h4 r r1 r2
    rw [gm r (by omega) r2, gm r (by omega) r2, gm r (by omega) r2]
    exact this
theorem cRo.app (t : List Int) (h : cRo T S G A P ln H b k ed) (hP : ∀ e, e < T.length → P' e = P e) : cRo (T ++ [t]) S G A P' ln H b k ed := by
  obtain ⟨h0, mp, h3, h4⟩ := h
  refine ⟨h0, mp, fun r r1 r2 => ?_, h4⟩
  obtain ⟨a1, a2, a3⟩ := h3 r r1 r2
  exact ⟨a1, a2.app t hP, a3⟩
theorem cCt.ge (h : cCt T S G A ln W) (hA : A ≤ A') (hS : ∀ a, a < A → S' a = S a) (hG : xSf A G G') (hl : ∀ c, c < 72 → G' (ln + 7) c = G (ln + 7) c ∧ G' (ln + 8) c = G (ln + 8) c) : cCt T S' G' A' ln W := by
  obtain ⟨lt, h⟩ := h
  refine ⟨lt, fun c hc => ?_⟩
  obtain ⟨a1, a2, a3⟩ := h c hc
  refine ⟨by rw [(hl c hc).1]; exact a1, by rw [(hl c hc).2]; exact a2, ?_⟩
  rcases a3 with z | ⟨z1, z2, e, z3, z4⟩
  · exact .inl z
  · exact .inr ⟨z1, by omega, e, z3, z4.ge (fun a y1 y2 => hS a (by omega)) (fun a j y1 y2 => hG a j (by omega) (by omega))⟩
theorem xOf_1 {K K' : Nat → Nat} {c : Nat} (h : K c = K' c) : xOf T K c = xOf T K' c := by
  unfold xOf
  rw [h]
theorem xOf_a1 {K : Nat → Nat} {c : Nat} (t : List Int) (h : K c < T.length) : xOf (T ++ [t]) K c = xOf T K c := by
  unfold xOf
  rw [getD_app _ h]
theorem cCt.app (t : List Int) (h : cCt T S G A ln W) (hW : ∀ c, c < 72 → (W c).toNat < T.length) : cCt (T ++ [t]) S G A ln W := by
  obtain ⟨lt, h⟩ := h
  refine ⟨lt, fun c hc => ?_⟩
  rw [xOf_a1 (K := fun c => (W c).toNat) t (hW c hc)]
  exact h c hc
theorem cLn.ge (h : cLn T S G A P ln l) (hA : A ≤ A') (hS : ∀ a, a < A → S' a = S a) (hG : xSf A G G') (hl : ∀ a j, ln ≤ a → a ≤ ln + 8 → G' a j = G a j) : cLn T S' G' A' P ln l := by
  obtain ⟨h1, ⟨h2, h3⟩, h4, ⟨s, h5, h6⟩, h7, h8, h9⟩ := h
  refine ⟨h1.ge hA hS hG ⟨hl _ _ (by omega) (by omega), hl _ _ (by omega) (by omega), fun j _ _ => hl _ _ (by omega) (by omega)⟩, ⟨fun p hp => by rw [hl _ _ (by omega) (by omega)]; exact h2 p hp, fun c hc => by rw [hl _ _ (by omega) (by omega)]; exact h3 c hc⟩, by rw [hl _ _ (by omega) (by omega)]; exact h4, ⟨s, h5, h6.ge (fun a j y1 y2 => hl a j (by omega) (by omega))⟩, h7.ge hA hS hG (fun c _ => ⟨hl _ _ (by omega) (by omega), hl _ _ (by omega) (by omega)⟩), by rw [hl _ _ (by omega) (by omega)]; exact h8, by rw [hl _ _ (by omega) (by omega)]; exact h9⟩
theorem cEe.ge (h : cEe T S G A P l) (hA : A ≤ A') (hS : ∀ a, a < A → S' a = S a) (hG : xSf A G G') (h1 : G' 64 12 = G 64 12 ∧ G' 64 13 = G 64 13) : cEe T S' G' A' P l := by
  obtain ⟨a, b⟩ := h
  refine ⟨fun z => by rw [h1.2]; exact a z, fun z => ?_⟩
  obtain ⟨ea, eb, b1, b2, b3, b4⟩ := b z
  exact ⟨ea, eb, by rw [h1.1]; exact b1, by rw [h1.2]; exact b2, b3.ge hA hS hG, b4.ge hA hS hG⟩
theorem cEe.app (t : List Int) (h : cEe T S G A P l) (hP : ∀ e, e < T.length → P' e = P e) : cEe (T ++ [t]) S G A P' l := by
  obtain ⟨a, b⟩ := h
  refine ⟨a, fun z => ?_⟩
  obtain ⟨ea, eb, b1, b2, b3, b4⟩ := b z
  exact ⟨ea, eb, b1, b2, b3.app t hP, b4.app t hP⟩
theorem cKp.ge (h : cKp S G kp) (hS : ∀ a, a < 227 → S' a = S a) (hG : ∀ a j, 221 ≤ a → a ≤ 226 → G' a j = G a j) (h1 : G' 64 10 = G 64 10 ∧ G' 64 11 = G 64 11) : cKp S' G' kp := by
  obtain ⟨an, sp, a1, a2, a3, a4⟩ := h
  exact ⟨an, sp, a1, by rw [h1.1]; exact a2, by rw [h1.2]; exact a3, a4.ge (fun a y1 y2 => hS a (by omega)) (fun j => hG _ _ (by omega) (by omega)) (fun j => hG _ _ (by omega) (by omega)) (fun j => hG _ _ (by omega) (by omega))⟩
theorem cMt.ge (h : cMt G mt) (h1 : G' 64 15 = G 64 15 ∧ G' 64 16 = G 64 16) (h2 : ∀ j, G' 227 j = G 227 j) : cMt G' mt := ⟨by rw [h1.1]; exact h.1, by rw [h1.2]; exact h.2.1, h.2.2.1, fun j hj => by rw [h2]; exact h.2.2.2 j hj⟩
theorem cEm.ge (h : cEm G) (hG : ∀ a j, 203 < a → a < 216 → G' a j = G a j) : cEm G' := fun w h1 h4 => by
  rw [hG _ _ (by omega) (by omega), hG _ _ (by omega) (by omega)]
  exact h w h1 h4
/-- calls that change scratch cells alone -/
theorem cHs.ge {H : sHs} (h : cHs S G A H n) (hn : n ≤ n') (hA : A ≤ A') (hS : ∀ a, a < A → S' a = S a) (hp : cPs G') (hG : ∀ a j, a < A → (a = 64 ∧ 6 ≤ j ∨ a = 65 ∧ j = 1 ∨ a = 66 ∨ 203 < a ∧ a < 216 ∨ 220 < a) → G' a j = G a j) : cHs S' G' A' H n' := by
  obtain ⟨T, lns, hr, tx, kp, mt, pl, rf⟩ := H
  obtain ⟨⟨a1, a2, a3, a4⟩, ⟨P, b1, b2, b3⟩, ⟨c1, c2⟩, ⟨c3, c4⟩, c5, c6, c7, c8, c9⟩ := h
  have g6 : ∀ j, 6 ≤ j → G' 64 j = G 64 j := fun j y => hG _ _ (by omega) (by omega)
  have sf : xSf A G G' := fun a j y1 y2 => hG a j y1 (by omega)
  refine ⟨⟨fun k hk => by rw [hS _ (by omega)]; exact a1 k hk, hp, a3.ge (fun a j y1 y2 => hG a j (by omega) (by omega)), by omega⟩, ⟨P, b1.ge hA hS sf (by rw [g6 _ (by omega)]; exact Int.le_refl _), fun y hy => (b2 y hy).ge hA hS sf (fun a j y1 y2 => hG a j (by omega) (by omega)), b3.ge hA hS sf ⟨g6 _ (by omega), g6 _ (by omega)⟩⟩, ⟨c1, by rw [g6 _ (by omega)]; exact c2⟩, ⟨by rw [g6 _ (by omega)]; exact c3, by rw [g6 _ (by omega)]; omega⟩, by rw [g6 _ (by omega)]; exact c5, by rw [g6 _ (by omega)]; exact c6, c7.ge (hG _ _ (by omega) (by omega)) (fun p => hG _ _ (by omega) (by omega)), c8.ge (fun a y => hS a (by omega)) (fun a j y1 y2 => hG a j (by omega) (by omega)) ⟨g6 _ (by omega), g6 _ (by omega)⟩, c9.ge ⟨g6 _ (by omega), g6 _ (by omega)⟩ (fun j => hG _ _ (by omega) (by omega))⟩
end
end
