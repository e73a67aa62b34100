/-! THE CLASS: a line's cells; tell(), one predicate -/
def lnSt (S : Nat → Nat × Nat × Nat) (ln : Nat) : Prop := S ln = (1, 1, 14) ∧ S (ln + 1) = (2, 7, 520) ∧ S (ln + 2) = (2, 3, 16) ∧ S (ln + 3) = (2, 3, 72) ∧ S (ln + 4) = (2, 3, 400) ∧ S (ln + 5) = (2, 0, 400) ∧ S (ln + 6) = (2, 4, 1600) ∧ S (ln + 7) = (2, 0, 72) ∧ S (ln + 8) = (2, 5, 72)
def lnPt (G : xG_) (ln : Nat) : Prop := G ln 0 = ((ln + 1 : Nat) : Int) ∧ G ln 5 = ((ln + 2 : Nat) : Int) ∧ G ln 6 = ((ln + 3 : Nat) : Int) ∧ G ln 9 = ((ln + 4 : Nat) : Int) ∧ G ln 10 = ((ln + 5 : Nat) : Int) ∧ G ln 11 = ((ln + 6 : Nat) : Int) ∧ G ln 12 = ((ln + 7 : Nat) : Int) ∧ G ln 13 = ((ln + 8 : Nat) : Int)
theorem lnSt_of {S : Nat → Nat × Nat × Nat} {k : Nat} (h : cSs S) (hk : k < 4) : lnSt S (243 + 9 * k) := by
  rcases (by omega : k = 0 ∨ k = 1 ∨ k = 2 ∨ k = 3) with rfl | rfl | rfl | rfl
  · exact ⟨h 179 (by decide), h 180 (by decide), h 181 (by decide), h 182 (by decide), h 183 (by decide), h 184 (by decide), h 185 (by decide), h 186 (by decide), h 187 (by decide)⟩
  · exact ⟨h 188 (by decide), h 189 (by decide), h 190 (by decide), h 191 (by decide), h 192 (by decide), h 193 (by decide), h 194 (by decide), h 195 (by decide), h 196 (by decide)⟩
  · exact ⟨h 197 (by decide), h 198 (by decide), h 199 (by decide), h 200 (by decide), h 201 (by decide), h 202 (by decide), h 203 (by decide), h 204 (by decide), h 205 (by decide)⟩
  · exact ⟨h 206 (by decide), h 207 (by decide), h 208 (by decide), h 209 (by decide), h 210 (by decide), h 211 (by decide), h 212 (by decide), h 213 (by decide), h 214 (by decide)⟩
theorem ln_pt : ∀ k : Fin 4, (243 + 9 * k.val, 0, 244 + 9 * k.val) ∈ cl_P ∧ (243 + 9 * k.val, 5, 245 + 9 * k.val) ∈ cl_P ∧ (243 + 9 * k.val, 6, 246 + 9 * k.val) ∈ cl_P ∧ (243 + 9 * k.val, 9, 247 + 9 * k.val) ∈ cl_P := by decide +kernel
theorem ln_pt2 : ∀ k : Fin 4, (243 + 9 * k.val, 10, 248 + 9 * k.val) ∈ cl_P ∧ (243 + 9 * k.val, 11, 249 + 9 * k.val) ∈ cl_P ∧ (243 + 9 * k.val, 12, 250 + 9 * k.val) ∈ cl_P ∧ (243 + 9 * k.val, 13, 251 + 9 * k.val) ∈ cl_P := by decide +kernel
theorem lnPt_of {G : xG_} {k : Nat} (h : cPs G) (hk : k < 4) : lnPt G (243 + 9 * k) := by
  obtain ⟨a1, a2, a3, a4⟩ := ln_pt ⟨k, hk⟩
  obtain ⟨a5, a6, a7, a8⟩ := ln_pt2 ⟨k, hk⟩
  refine ⟨?_, ?_, ?_, ?_, ?_, ?_, ?_, ?_⟩
  · rw [h _ a1]; show ((244 + 9 * k : Nat) : Int) = _; omega
  · rw [h _ a2]; show ((245 + 9 * k : Nat) : Int) = _; omega
  · rw [h _ a3]; show ((246 + 9 * k : Nat) : Int) = _; omega
  · rw [h _ a4]; show ((247 + 9 * k : Nat) : Int) = _; omega
  · rw [h _ a5]; show ((248 + 9 * k : Nat) : Int) = _; omega
  · rw [h _ a6]; show ((249 + 9 * k : Nat) : Int) = _; omega
  · rw [h _ a7]; show ((250 + 9 * k : Nat) : Int) = _; omega
  · rw [h _ a8]; show ((251 + 9 * k : Nat) : Int) = _; omega
/-- CHANGES that are PENDING, for the program s -/
def cPn (G : xG_) (ln : Nat) (s : pPg) (E : List pPe) : Prop := G ln 8 = (E.length : Int) ∧ E.length ≤ 400 ∧ ∀ i, i < E.length → ((∃ p : Nat, p < s.1.length ∧ chT s (E.getD i dPe) p ∧ G (ln + 4) i = (p : Int)) ∨ ((∀ p, p < s.1.length → ¬ chT s (E.getD i dPe) p) ∧ G (ln + 4) i = -1)) ∧ G (ln + 5) i = (if (E.getD i dPe).1 < 0 then 0 else 1) ∧ ∀ c, c < (E.getD i dPe).2.2.length → G (ln + 6) (4 * i + c) = (E.getD i dPe).2.2.getD c 0
theorem cPn.ge {G G' : xG_} {ln : Nat} {s : pPg} {E : List pPe} (h : cPn G ln s E) (hf : ∀ a j, ln ≤ a → a ≤ ln + 6 → G' a j = G a j) : cPn G' ln s E := by
  obtain ⟨a1, a2, a3⟩ := h
  refine ⟨by rw [hf _ _ (by omega) (by omega)]; exact a1, a2, fun i hi => ?_⟩
  obtain ⟨b1, b2, b3⟩ := a3 i hi
  exact ⟨by rw [hf _ _ (by omega) (by omega)]; exact b1, by rw [hf _ _ (by omega) (by omega)]; exact b2, fun c hc => by rw [hf _ _ (by omega) (by omega)]; exact b3 c hc⟩
/-- a CHANGE, one predicate -/
def chP (s : pPg) (p : Nat) (e : pPe) (L L1 : List pRw) : Prop := L1.Pairwise rwLt ∧ L1.length ≤ L.length + 1 ∧ ∀ y, y ∈ L1 ↔ (¬ chT s e p ∧ y ∈ L) ∨ (chT s e p ∧ chY1 (if e.1 < 0 then 0 else 1) (qKy s p) e.2.2 L y)
def chA1 (s : pPg) (p : Nat) : List pPe → List pRw → List pRw → Prop
  | [], L, L' => L' = L
  | e :: ps, L, L' => ∃ L1, chP s p e L L1 ∧ chA1 s p ps L1 L'
theorem chY_1 {s : pPg} {e : pPe} {R : Nat → List pRw} {p : Nat} {y : pRw} : chY s e R p y ↔ (¬ chT s e p ∧ y ∈ R p) ∨ (chT s e p ∧ chY1 (if e.1 < 0 then 0 else 1) (qKy s p) e.2.2 (R p) y) := by
  unfold chY chY1
  by_cases c : e.1 < 0
  · rw [if_pos c]
    refine or_congr Iff.rfl (and_congr_right (fun _ => ⟨fun q => ?_, fun q => ?_⟩))
    · rcases q with q | q | q
      · exact .inl ⟨rfl, q.2⟩
      · omega
      · omega
    · rcases q with q | q | q
      · exact .inl ⟨c, q.2⟩
      · exact absurd rfl q.1
      · exact absurd rfl q.1
  · rw [if_neg c]
    refine or_congr Iff.rfl (and_congr_right (fun _ => ⟨fun q => ?_, fun q => ?_⟩))
    · rcases q with q | q | q
      · exact absurd q.1 c
      · exact .inr (.inl ⟨by decide, q.2⟩)
      · exact .inr (.inr ⟨by decide, q.2⟩)
    · rcases q with q | q | q
      · exact absurd q.1 (by decide)
      · exact .inr (.inl ⟨by omega, q.2⟩)
      · exact .inr (.inr ⟨by omega, q.2⟩)
theorem chA1_of {s : pPg} : ∀ {E : List pPe} {R R' : Nat → List pRw}, chA s E R R' → ∀ p, p < s.1.length → chA1 s p E (R p) (R' p)
  | [], R, R', h, p, hp => by
    have h' : R' = R := h
    rw [h']; exact rfl
  | e :: ps, R, R', h, p, hp => by
    obtain ⟨R1, h1, h2⟩ := h
    obtain ⟨a1, a2, a3⟩ := h1 p hp
    exact ⟨R1 p, ⟨a1, a2, fun y => (a3 y).trans chY_1⟩, chA1_of h2 p hp⟩
theorem chA1_no {s : pPg} {p : Nat} (hi : pIn s.2.1 (p : Int) = false) {L : List pRw} (hL : L.Pairwise rwLt) : ∀ (E : List pPe), chA1 s p E L L
  | [] => rfl
  | e :: ps => ⟨L, ⟨hL, by omega, fun y => by
      have : ¬ chT s e p := fun q => by rw [q.2.1] at hi; cases hi
      exact ⟨fun q => .inl ⟨this, q⟩, fun q => q.elim (fun q => q.2) (fun q => absurd q.1 this)⟩⟩, chA1_no hi hL ps⟩
theorem kU.ch {k : Nat} {L L1 : List pRw} {ad : Int} {kl : List Int} (h : kU k L) (hm : ∀ y, y ∈ L1 ↔ chY1 ad k kl L y) : kU k L1 := fun hk a ha b hb e => by
  rcases (hm a).mp ha with ⟨a0, a1, _⟩ | ⟨_, ⟨u, u1, u2⟩, a1⟩ | ⟨a0, a3, ⟨a1, a2⟩ | a1⟩
  · rcases (hm b).mp hb with ⟨_, b1, _⟩ | ⟨_, _, b1⟩ | ⟨c1, _⟩
    · exact h hk a a1 b b1 e
    · exact h hk a a1 b b1 e
    · exact absurd a0 c1
  · rcases (hm b).mp hb with ⟨_, b1, _⟩ | ⟨_, _, b1⟩ | ⟨_, c1, _⟩
    · exact h hk a a1 b b1 e
    · exact h hk a a1 b b1 e
    · exact absurd u2 (c1 u u1)
  · rcases (hm b).mp hb with ⟨_, b1, _⟩ | ⟨_, _, b1⟩ | ⟨_, _, ⟨b1, _⟩ | b1⟩
    · exact h hk a a1 b b1 e
    · exact h hk a a1 b b1 e
    · exact h hk a a1 b b1 e
    · subst b1; exact absurd ⟨hk, e⟩ a2
  · rcases (hm b).mp hb with ⟨c1, _⟩ | ⟨_, ⟨w, w1, w2⟩, _⟩ | ⟨_, _, ⟨b1, b2⟩ | b1⟩
    · exact absurd c1 a0
    · exact absurd w2 (a3 w w1)
    · subst a1; exact absurd ⟨hk, e.symm⟩ b2
    · rw [a1, b1]
theorem chP.ku {s : pPg} {p : Nat} {e : pPe} {L L1 : List pRw} (h : chP s p e L L1) (hU : kU (qKy s p) L) : kU (qKy s p) L1 := by
  obtain ⟨h1, h2, h3⟩ := h
  by_cases c : chT s e p
  · exact hU.ch (fun y => (h3 y).trans ⟨fun q => q.elim (fun q => absurd c q.1) (fun q => q.2), fun q => .inr ⟨c, q⟩⟩)
  · intro hk a ha b hb
    have : ∀ y, y ∈ L1 → y ∈ L := fun y hy => ((h3 y).mp hy).elim (fun q => q.2) (fun q => absurd q.1 c)
    exact hU hk a (this a ha) b (this b hb)
theorem chA1.ku {s : pPg} {p : Nat} : ∀ {E : List pPe} {L L' : List pRw}, chA1 s p E L L' → kU (qKy s p) L → kU (qKy s p) L'
  | [], L, L', h, hU => by
    have h' : L' = L := h
    rw [h']; exact hU
  | e :: ps, L, L', h, hU => by
    obtain ⟨L1, h1, h2⟩ := h
    exact chA1.ku h2 (h1.ku hU)
theorem chA1.ok {s : pPg} {p : Nat} : ∀ {E : List pPe} {L L' : List pRw}, chA1 s p E L L' → (∀ e ∈ E, ∀ x ∈ e.2.2, vOk x) → (∀ y ∈ L, y.2 = 0 ∧ ∀ x ∈ y.1, vOk x) → ∀ y ∈ L', y.2 = 0 ∧ ∀ x ∈ y.1, vOk x
  | [], L, L', h, hE, hL => by
    have h' : L' = L := h
    rw [h']; exact hL
  | e :: ps, L, L', h, hE, hL => by
    obtain ⟨L1, h1, h2⟩ := h
    refine chA1.ok h2 (fun e he => hE e (List.mem_cons_of_mem _ he)) (fun y hy => ?_)
    rcases (h1.2.2 y).mp hy with q | ⟨_, q⟩
    · exact hL y q.2
    · rcases q with q | q | ⟨_, _, q | q⟩
      · exact hL y q.2.1
      · exact hL y q.2.2
      · exact hL y q.1
      · rw [q]; exact ⟨rfl, hE e List.mem_cons_self⟩
theorem chA1.srt {s : pPg} {p : Nat} : ∀ {E : List pPe} {L L' : List pRw}, chA1 s p E L L' → L.Pairwise rwLt → L'.Pairwise rwLt
  | [], L, L', h, hL => by
    have h' : L' = L := h
    rw [h']; exact hL
  | e :: ps, L, L', h, hL => by
    obtain ⟨L1, h1, h2⟩ := h
    exact chA1.srt h2 h1.1
theorem md_pt : ∀ p : Fin 16, (96, p.val, 108 + 6 * p.val) ∈ cl_P := by decide +kernel
theorem p_md {G : xG_} {p : Nat} (h : cPs G) (hp : p < 16) : G 96 p = ((108 + 6 * p : Nat) : Int) := h _ (md_pt ⟨p, hp⟩)
section
variable {f q p i ln n x y np : Nat} {S : Nat → Nat × Nat × Nat} {G G1 G2 : xG_} {m : Nat × Nat} {tt v ad : Int} {r2 : Nat → Nat → Int → xT_ → Option (Int × xT_)} {r18 : Nat → Nat → Int → Int → Int → xT_ → Option (Int × xT_)} {T : xT_} {k sz : Nat}
theorem st_18z (ls : S ln = (1, 1, 14)) (h8 : G ln 8 = (n : Int)) : c146_18b r2 r18 f 93 ln (p : Int) 0 (n : Int) (S, G, m) = c146_143 r2 f 93 ln (p : Int) (S, G, m) := by
  unfold c146_18b
  simp (disch := omega) only [cq_gi, cq_gr, cq_a, cq_s, cq_p, cq_pr, cq_is, cq_ar, cq_ab, cq_ln, xq_nz, Option.bind_some, xup2_n, xup2_s, Int.toNat_natCast, Int.reduceToNat, if_pos, if_neg, true_and, and_true, and_self, eq_self, if_true, reduceIte, not_true_eq_false, not_false_eq_true, or_true, true_or, ls, h8]
theorem st_18f (hs : cSs S) (hp : cPs G) (ls : S ln = (1, 1, 14)) (h8 : G ln 8 = (n : Int)) (h1 : G 99 1 = (sz : Int)) (hz : 100 < sz) : c146_18b r2 r18 f 93 ln (p : Int) 1 (n : Int) (S, G, m) = some (0, (S, G, m)) := by
  have h10 : ¬ (1 : Int) = 0 := by decide
  have hz' : ¬ (sz : Int) ≤ 100 := by omega
  unfold c146_18b
  simp (disch := omega) only [cq_gi, cq_gr, cq_a, cq_s, cq_p, cq_pr, cq_is, cq_ar, cq_ab, cq_ln, xq_nz, Option.bind_some, xup2_n, xup2_s, Int.toNat_natCast, Int.reduceToNat, if_pos, if_neg, true_and, and_true, and_self, eq_self, if_true, reduceIte, not_true_eq_false, not_false_eq_true, or_true, true_or, s93 hs, s99 hs, p93_7 hp, ls, h8, h1, hz', h10]
theorem st_18w (hs : cSs S) (hp : cPs G) (hp1 : cPs G1) (hp16 : p < 16) (ls : S ln = (1, 1, 14)) (h8 : G ln 8 = (n : Int)) (h1 : G 99 1 = (sz : Int)) (hz : sz ≤ 100) (e : c79 f (108 + 6 * p) 99 (S, G, m) = some (S, G1, m)) : c146_18b r2 r18 f 93 ln (p : Int) 1 (n : Int) (S, G, m) = c146_143 r2 f 93 ln (p : Int) (S, xup2 G1 94 p ((108 + 6 * p : Nat) : Int), m) := by
  have h10 : ¬ (1 : Int) = 0 := by decide
  have hz' : (sz : Int) ≤ 100 := by omega
  have hm : G 96 p = ((108 + 6 * p : Nat) : Int) := p_md hp hp16
  have hm1 : G1 96 p = ((108 + 6 * p : Nat) : Int) := p_md hp1 hp16
  have sm : S (108 + 6 * p) = (1, 5, 4) := (s_mk hs hp16).1
  have hsr : cq_sr 94 (p : Int) (108 + 6 * p) (S, G1, m) = some (S, xup2 G1 94 p ((108 + 6 * p : Nat) : Int), m) := by
    unfold cq_sr
    simp only [s94 hs, sm]
    rw [if_pos ⟨trivial, by decide, by omega, by omega, .inr ⟨trivial, trivial⟩⟩, Int.toNat_natCast]
  unfold c146_18b
  simp (disch := omega) only [cq_gi, cq_gr, cq_a, cq_s, cq_p, cq_pr, cq_is, cq_ar, cq_ab, cq_ln, xq_nz, Option.bind_some, xup2_n, xup2_s, Int.toNat_natCast, Int.reduceToNat, if_pos, if_neg, true_and, and_true, and_self, eq_self, if_true, reduceIte, not_true_eq_false, not_false_eq_true, or_true, true_or, s93 hs, s99 hs, s96 hs, p93_7 hp, p93_4 hp, p93_2 hp1, p93_4 hp1, ls, h8, h1, hz', h10, hm, hm1, sm, e, hsr]
theorem st_18n (ls : S ln = (1, 1, 14)) (l4 : S (ln + 4) = (2, 3, 400)) (h9 : G ln 9 = ((ln + 4 : Nat) : Int)) (h8 : G ln 8 = (n : Int)) (hi : i < n) (hn : n ≤ 400) (hv : G (ln + 4) i = v) (hne : v ≠ (p : Int)) (ei : xwr ((i : Int) + 1) = ((i + 1 : Nat) : Int)) : c146_18b r2 r18 f 93 ln (p : Int) tt (i : Int) (S, G, m) = r18 93 ln (p : Int) tt ((i + 1 : Nat) : Int) (S, G, m) := by
  unfold c146_18b c146_94
  simp (disch := omega) only [cq_gi, cq_gr, cq_a, cq_s, cq_p, cq_pr, cq_is, cq_ar, cq_ab, cq_ln, xq_nz, Option.bind_some, xup2_n, xup2_s, Int.toNat_natCast, Int.reduceToNat, if_pos, if_neg, true_and, and_true, and_self, eq_self, if_true, reduceIte, not_true_eq_false, not_false_eq_true, or_true, true_or, ls, l4, h9, h8, hv, hne, ei]
theorem st_18t (ls : S ln = (1, 1, 14)) (l4 : S (ln + 4) = (2, 3, 400)) (h9 : G ln 9 = ((ln + 4 : Nat) : Int)) (h8 : G ln 8 = (n : Int)) (hi : i < n) (hn : n ≤ 400) (hv : G (ln + 4) i = (p : Int)) : c146_18b r2 r18 f 93 ln (p : Int) 1 (i : Int) (S, G, m) = c146_57 r2 r18 f 93 ln (p : Int) 1 (i : Int) (S, G, m) := by
  have h10 : ¬ (1 : Int) = 0 := by decide
  unfold c146_18b
  simp (disch := omega) only [cq_gi, cq_gr, cq_a, cq_s, cq_p, cq_pr, cq_is, cq_ar, cq_ab, cq_ln, xq_nz, Option.bind_some, xup2_n, xup2_s, Int.toNat_natCast, Int.reduceToNat, if_pos, if_neg, true_and, and_true, and_self, eq_self, if_true, reduceIte, not_true_eq_false, not_false_eq_true, or_true, true_or, ls, l4, h9, h8, hv, h10]
theorem st_18u (hs : cSs S) (hp : cPs G) (hp16 : p < 16) (ls : S ln = (1, 1, 14)) (l4 : S (ln + 4) = (2, 3, 400)) (h9 : G ln 9 = ((ln + 4 : Nat) : Int)) (h8 : G ln 8 = (n : Int)) (hi : i < n) (hn : n ≤ 400) (hv : G (ln + 4) i = (p : Int)) (h94 : G 94 p = (x : Int)) (e : c79 f 99 x (S, G, m) = some T) : c146_18b r2 r18 f 93 ln (p : Int) 0 (i : Int) (S, G, m) = c146_57 r2 r18 f 93 ln (p : Int) 1 (i : Int) T := by
  unfold c146_18b
  simp (disch := omega) only [cq_gi, cq_gr, cq_a, cq_s, cq_p, cq_pr, cq_is, cq_ar, cq_ab, cq_ln, xq_nz, Option.bind_some, xup2_n, xup2_s, Int.toNat_natCast, Int.reduceToNat, if_pos, if_neg, true_and, and_true, and_self, eq_self, if_true, reduceIte, not_true_eq_false, not_false_eq_true, or_true, true_or, s93 hs, s99 hs, s94 hs, p93_7 hp, p93_2 hp, ls, l4, h9, h8, hv, h94, e]
theorem st_57 (hs : cSs S) (hp : cPs G) (hp1 : cPs G1) (hp16 : p < 16) (ls : S ln = (1, 1, 14)) (l5 : S (ln + 5) = (2, 0, 400)) (h10 : G1 ln 10 = ((ln + 5 : Nat) : Int)) (h11 : G ln 11 = ((ln + 6 : Nat) : Int)) (hi : i < 400) (e4 : xwr (4 * (i : Int)) = ((4 * i : Nat) : Int)) (ec : cq_cp (ln + 6) ((4 * i : Nat) : Int) 103 0 4 (S, G, m) = some (S, G1, m)) (ha : G1 (ln + 5) i = ad) (h1 : G1 93 1 = (q : Int)) (qs : S q = (1, 3, 14)) (q3 : S (q + 3) = (2, 3, 16)) (h4 : G1 q 4 = ((q + 3 : Nat) : Int)) (hk : G1 (q + 3) p = (k : Int)) (e : c147 f 93 ad (k : Int) (S, G1, m) = some T) (ei : xwr ((i : Int) + 1) = ((i + 1 : Nat) : Int)) : c146_57 r2 r18 f 93 ln (p : Int) tt (i : Int) (S, G, m) = r18 93 ln (p : Int) tt ((i + 1 : Nat) : Int) T := by
  unfold c146_57 c146_94
  simp (disch := omega) only [cq_gi, cq_gr, cq_a, cq_s, cq_p, cq_pr, cq_is, cq_ar, cq_ab, cq_ln, xq_nz, Option.bind_some, xup2_n, xup2_s, Int.toNat_natCast, Int.reduceToNat, if_pos, if_neg, true_and, and_true, and_self, eq_self, if_true, reduceIte, not_true_eq_false, not_false_eq_true, or_true, true_or, s93 hs, p93_9 hp, ls, l5, h10, h11, e4, ec, ha, h1, qs, q3, h4, hk, e, ei, Nat.reduceLT]
end
