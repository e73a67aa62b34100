/-! THE CLASS: the SHEET: readsChanged() -/
theorem nOf_t {s : pPg} {p : Nat} : ∀ N : List pNd, (nOf s N).testBit p = true ↔ ∃ y ∈ N, (6 ≤ y.1 ∧ y.1 ≤ 9) ∧ pIdx s.1 y.2.2.2.2 = (p : Int)
  | [] => by
    constructor
    · intro h
      have h' : (0 : Nat).testBit p = true := h
      rw [Nat.zero_testBit] at h'
      cases h'
    · rintro ⟨y, hy, _⟩
      cases hy
  | y :: N => by
    have ih := nOf_t (s := s) (p := p) N
    show (nO1 s y ||| nOf s N).testBit p = true ↔ _
    rw [Nat.testBit_or, Bool.or_eq_true, ih]
    have h1 : (nO1 s y).testBit p = true ↔ (6 ≤ y.1 ∧ y.1 ≤ 9) ∧ pIdx s.1 y.2.2.2.2 = (p : Int) := by
      unfold nO1
      have hge : -1 ≤ pIdx s.1 y.2.2.2.2 := by
        unfold pIdx
        cases List.findIdx? _ _ with
        | none => decide
        | some k => show (-1 : Int) ≤ (k : Int); omega
      by_cases c : 6 ≤ y.1 ∧ y.1 ≤ 9 ∧ pIdx s.1 y.2.2.2.2 ≠ -1
      · rw [if_pos c, Nat.testBit_two_pow, decide_eq_true_iff]
        constructor
        · intro h; exact ⟨⟨c.1, c.2.1⟩, by omega⟩
        · rintro ⟨_, h⟩; rw [h]; rfl
      · rw [if_neg c, Nat.zero_testBit]
        constructor
        · intro h; cases h
        · rintro ⟨h2, h3⟩; exact (c ⟨h2.1, h2.2, by omega⟩).elim
    rw [h1]
    constructor
    · rintro (h | ⟨z, hz, h⟩)
      · exact ⟨y, List.mem_cons_self .., h⟩
      · exact ⟨z, List.mem_cons_of_mem _ hz, h⟩
    · rintro ⟨z, hz, h⟩
      rcases List.mem_cons.mp hz with q | q
      · rw [q] at h; exact .inl h
      · exact .inr ⟨z, q, h⟩
theorem lf_n {N : List pNd} {C : pCd} {P : Int → Prop} (h : N.filterMap lf = C.filter lfC) (hw : wFm N) : (∃ c ∈ C, (10 ≤ c.1 % 256 ∧ c.1 % 256 ≤ 13) ∧ P c.2) ↔ ∃ y ∈ N, (6 ≤ y.1 ∧ y.1 ≤ 9) ∧ P y.2.2.2.2 := by
  constructor
  · rintro ⟨c, hc, h1, h2⟩
    have hm : c ∈ C.filter lfC := List.mem_filter.mpr ⟨hc, by unfold lfC; rw [decide_eq_true_iff]; omega⟩
    rw [← h, List.mem_filterMap] at hm
    obtain ⟨y, hy, hl⟩ := hm
    obtain ⟨M, k, wy⟩ := hw.all y hy
    refine ⟨y, hy, ?_⟩
    unfold wNd at wy
    unfold lf at hl
    by_cases c1 : y.1 = 1
    · rw [if_pos c1] at hl
      cases hl
      have h1' : 10 ≤ (1 : Int) % 256 ∧ (1 : Int) % 256 ≤ 13 := h1
      omega
    · rw [if_neg c1] at hl
      by_cases c2 : y.1 = 2
      · rw [if_pos c2] at hl
        cases hl
        have h1' : 10 ≤ (2 : Int) % 256 ∧ (2 : Int) % 256 ≤ 13 := h1
        omega
      · rw [if_neg c2] at hl
        by_cases c4 : y.1 = 4 ∨ y.1 = 5
        · rw [if_pos c4] at hl
          cases hl
          have h1' : 10 ≤ (y.1 - 1) % 256 ∧ (y.1 - 1) % 256 ≤ 13 := h1
          omega
        · rw [if_neg c4] at hl
          by_cases c6 : 6 ≤ y.1 ∧ y.1 ≤ 9
          · rw [if_pos c6] at hl
            cases hl
            exact ⟨c6, h2⟩
          · rw [if_neg c6] at hl
            cases hl
  · rintro ⟨y, hy, h1, h2⟩
    obtain ⟨M, k, wy⟩ := hw.all y hy
    unfold wNd at wy
    have hl : lf y = some (y.1 + 4 + 256 * y.2.1, y.2.2.2.2) := by
      unfold lf
      rw [if_neg (by omega), if_neg (by omega), if_neg (by omega), if_pos h1]
    have hm : (y.1 + 4 + 256 * y.2.1, y.2.2.2.2) ∈ C.filter lfC := by
      rw [← h, List.mem_filterMap]
      exact ⟨y, hy, hl⟩
    refine ⟨_, (List.mem_filter.mp hm).1, ?_, h2⟩
    show 10 ≤ (y.1 + 4 + 256 * y.2.1) % 256 ∧ (y.1 + 4 + 256 * y.2.1) % 256 ≤ 13
    omega
section
variable {f mo q o L : Nat} {S : Nat → Nat × Nat × Nat} {G : xG_} {m : Nat × Nat} {s : pPg}
/-- the program of the SHEET's moment -/
def cNe (S : Nat → Nat × Nat × Nat) (G : xG_) (mo q : Nat) (s : pPg) : Prop := cSs S ∧ G 216 0 = (mo : Int) ∧ S mo = (1, 2, 8) ∧ G mo 0 = (q : Int) ∧ cPgS S q ∧ cPgP G q ∧ cNs G q s.1 ∧ qOk s
/-- a predicate of this number has changed -/
def chI (ch : Nat) (x : Int) : Prop := ∃ p : Nat, x = (p : Int) ∧ ch.testBit p = true
theorem k_104l {ch : Nat} (hf : 100 < f) (hch : ch < 2147483648) (h : cNe S G mo q s) (hk : cKd S G o L) : ∀ (E P : pCd) (fu : Nat), P.length + E.length = L → E.length < fu → okCd E → (∀ k, k < E.length → G (o + 1) (P.length + k) = (E.getD k (0, 0)).1 ∧ G (o + 2) (P.length + k) = (E.getD k (0, 0)).2) → ∃ b, c104_25 f fu 216 o (ch : Int) (P.length : Int) (S, G, m) = some (b, (S, G, m)) ∧ isB b (∃ c ∈ E, (10 ≤ c.1 % 256 ∧ c.1 % 256 ≤ 13) ∧ chI ch (pIdx s.1 c.2)) := by
  have hl := ln_o (m := m) (T := (S, G, m)) hk
  obtain ⟨k1, k2, k3, k4, k5, k6, k7⟩ := hk
  obtain ⟨hs, h0, m1, m2, hP1, hP2, hP3, hok⟩ := h
  have g0 : cq_gr 0 0 5 o (S, G, m) = some (o + 1) := by
    show (if S o = (1, 0, 5) then some (G o 0).toNat else none) = _
    rw [if_pos k1, k4, Int.toNat_natCast]
  intro E
  induction E with
  | nil =>
    intro P fu e1 e2 e3 e4
    obtain ⟨fu, rfl⟩ : ∃ t, fu = t + 1 := ⟨fu - 1, by omega⟩
    rw [List.length_nil] at e1
    refine ⟨0, ?_, .inr ⟨rfl, fun ⟨c, hc, _⟩ => by cases hc⟩⟩
    show c104_25b (c104_25 f fu) f 216 o _ _ _ = _
    unfold c104_25b
    rw [g0, Option.bind_some, hl, Option.bind_some, if_pos (by omega)]
  | cons x E ih =>
    intro P fu e1 e2 e3 e4
    obtain ⟨fu, rfl⟩ : ∃ t, fu = t + 1 := ⟨fu - 1, by omega⟩
    rw [List.length_cons] at e1 e2
    have q0 := e4 0 (by simp)
    have q1 : G (o + 1) P.length = x.1 := q0.1
    have q2 : G (o + 2) P.length = x.2 := q0.2
    have hz := x_a255' (e3 x (List.mem_cons_self ..)).1
    have ek : xwr ((P.length : Int) + 1) = ((P.length + 1 : Nat) : Int) := by rw [xwr_g _ (by omega) (by omega)]; omega
    have hil : ¬ (L : Int) ≤ (P.length : Int) := by omega
    have hpl : P.length < L := by omega
    have e20 := k_20 (f := f) (m := m) (x := x.2) (by omega) hP1 hP2 hP3
    have hnp : s.1.length ≤ 16 := hP3.2.1
    have st : c104_25 f (fu + 1) 216 o (ch : Int) (P.length : Int) (S, G, m) = if x.1 % 256 < 10 then c104_25 f fu 216 o (ch : Int) ((P.length + 1 : Nat) : Int) (S, G, m) else if 13 < x.1 % 256 then c104_25 f fu 216 o (ch : Int) ((P.length + 1 : Nat) : Int) (S, G, m) else if pIdx s.1 x.2 = -1 then c104_25 f fu 216 o (ch : Int) ((P.length + 1 : Nat) : Int) (S, G, m) else if ¬ xand (xshr (ch : Int) (pIdx s.1 x.2)) 1 = 1 then c104_25 f fu 216 o (ch : Int) ((P.length + 1 : Nat) : Int) (S, G, m) else some (1, (S, G, m)) := by
      show c104_25b (c104_25 f fu) f 216 o _ _ _ = _
      unfold c104_25b c104_96
      rw [g0, Option.bind_some, hl, Option.bind_some, if_neg hil, Option.bind_some]
      obtain ⟨z0, _⟩ := hP1
      simp (disch := omega) only [cq_gi, cq_gr, cq_a, cq_s, cq_p, cq_pr, cq_is, cq_ar, cq_ab, cq_ln, xq_nz, Option.bind_some, xup2_n, xup2_s, Int.toNat_natCast, Int.reduceToNat, if_pos, if_neg, true_and, and_true, and_self, eq_self, if_true, reduceIte, not_true_eq_false, not_false_eq_true, or_true, true_or, s216 hs, h0, m1, m2, k1, k2, k3, k4, k5, q1, q2, hz, ek, e20, z0]
    have nx : (¬ ((10 ≤ x.1 % 256 ∧ x.1 % 256 ≤ 13) ∧ chI ch (pIdx s.1 x.2))) → ∃ b, c104_25 f fu 216 o (ch : Int) ((P.length + 1 : Nat) : Int) (S, G, m) = some (b, (S, G, m)) ∧ isB b (∃ c ∈ x :: E, (10 ≤ c.1 % 256 ∧ c.1 % 256 ≤ 13) ∧ chI ch (pIdx s.1 c.2)) := by
      intro hn
      obtain ⟨b, b1, b2⟩ := ih (P ++ [x]) fu (by rw [len1]; omega) (by omega) (fun c hc => e3 c (List.mem_cons_of_mem _ hc)) (fun k hk => by
        have := e4 (k + 1) (by rw [List.length_cons]; omega)
        rw [len1, Nat.add_assoc, Nat.add_comm 1 k]
        exact this)
      rw [len1] at b1
      refine ⟨b, b1, ?_⟩
      rcases b2 with ⟨z1, c, hc, z2⟩ | ⟨z1, z2⟩
      · exact .inl ⟨z1, c, List.mem_cons_of_mem _ hc, z2⟩
      · refine .inr ⟨z1, fun ⟨c, hc, z3⟩ => ?_⟩
        rcases List.mem_cons.mp hc with q | q
        · rw [q] at z3; exact hn z3
        · exact z2 ⟨c, q, z3⟩
    rw [st]
    by_cases c1 : x.1 % 256 < 10
    · rw [if_pos c1]; exact nx (fun z => by omega)
    · rw [if_neg c1]
      by_cases c2 : 13 < x.1 % 256
      · rw [if_pos c2]; exact nx (fun z => by omega)
      · rw [if_neg c2]
        rcases pIdx_get (x := x.2) hok.1.2.1 with ⟨z, _⟩ | ⟨p, p1, p2, _⟩
        · rw [if_pos z]
          refine nx (fun w => ?_)
          obtain ⟨p, w1, _⟩ := w.2
          omega
        · rw [if_neg (by omega), p2]
          have hb := xbit (a := ch) (m := p) hch (by omega)
          by_cases cb : ch.testBit p = true
          · rw [if_neg (fun z => z (hb.mpr cb))]
            exact ⟨1, rfl, .inl ⟨rfl, x, List.mem_cons_self .., ⟨by omega, by omega⟩, p, p2, cb⟩⟩
          · rw [if_pos (fun z => cb (hb.mp z))]
            refine nx (fun w => ?_)
            obtain ⟨p', w1, w2⟩ := w.2
            rw [p2] at w1
            have : p = p' := by omega
            rw [this] at cb
            exact cb w2
/-- readsChanged() -/
theorem k_104 {ch : Nat} {e : List pNd × Int} {fr : Int} (hf : 100 < f) (hch : ch < 2147483648) (h : cNe S G mo q s) (ho : 226 < o) (hF : cFm S G o e) (hfr : G mo 6 = fr) : ∃ b, c104 f 216 o (ch : Int) (S, G, m) = some (b, (S, G, m)) ∧ isB b ((fr = 1 ∧ nNm e.1 = true) ∨ ∃ p, p < s.1.length ∧ (nOf s e.1).testBit p = true ∧ ch.testBit p = true) := by
  obtain ⟨K, F, ⟨k1, k2, k3⟩, ⟨k4, k5⟩, k6, k7, k8, k9, k10, k11, k12, k13⟩ := hF
  obtain ⟨hs, h0, m1, m2, hP1, hP2, hP3, hok⟩ := id h
  have g4 : cq_gi 0 4 5 o (S, G, m) = some (G o 4) := if_pos k1
  have gm : cq_gr 7 0 5 216 (S, G, m) = some mo := by
    show (if S 216 = (1, 7, 5) then some (G 216 0).toNat else none) = _
    rw [if_pos (s216 hs), h0, Int.toNat_natCast]
  have g6 : cq_gi 2 6 8 mo (S, G, m) = some fr := by
    show (if S mo = (1, 2, 8) then some (G mo 6) else none) = _
    rw [if_pos m1, hfr]
  have hno : nNm e.1 = false → ∀ p, ¬ (nOf s e.1).testBit p = true := fun hn p hp => by
    obtain ⟨y, y1, y2, _⟩ := (nOf_t e.1).mp hp
    have : ∀ N : List pNd, y ∈ N → nNm N = true := by
      intro N
      induction N with
      | nil => intro h; cases h
      | cons z N ih =>
        intro h
        show (decide _ || _) = true
        rcases List.mem_cons.mp h with q | q
        · rw [← q, decide_eq_true y2]; rfl
        · rw [ih q, Bool.or_true]
    rw [this _ y1] at hn
    cases hn
  unfold c104
  rw [g4, Option.bind_some]
  cases hnm : nNm e.1 with
  | false =>
    rw [hnm] at k8
    have k8' : G o 4 = 0 := k8
    rw [if_pos k8']
    refine ⟨0, ?_, .inr ⟨rfl, fun z => ?_⟩⟩
    · unfold c104_18
      rw [g4, Option.bind_some, k8']
      rfl
    · rcases z with z | ⟨p, _, z, _⟩
      · cases z.2
      · exact hno hnm p z
  | true =>
    rw [hnm] at k8
    have k8' : G o 4 = 1 := k8
    rw [if_neg (by omega), gm, Option.bind_some, g6, Option.bind_some]
    by_cases c1 : fr = 1
    · rw [if_neg (fun z => z c1)]
      refine ⟨1, ?_, .inl ⟨rfl, .inl ⟨c1, rfl⟩⟩⟩
      unfold c104_18
      rw [g4, Option.bind_some, k8']
      rfl
    · rw [if_pos c1]
      obtain ⟨b, b1, b2⟩ := k_104l (m := m) hf hch h ⟨k1, k2, k3, k4, k5, k12, ho⟩ K [] f (by simp) (by omega) k13 (fun k hk => by
        show G (o + 1) (0 + k) = _ ∧ G (o + 2) (0 + k) = _
        rw [Nat.zero_add]
        exact k6 k hk)
      refine ⟨b, b1, ?_⟩
      have hiff : (∃ c ∈ K, (10 ≤ c.1 % 256 ∧ c.1 % 256 ≤ 13) ∧ chI ch (pIdx s.1 c.2)) ↔ ((fr = 1 ∧ true = true) ∨ ∃ p, p < s.1.length ∧ (nOf s e.1).testBit p = true ∧ ch.testBit p = true) := by
        rw [lf_n (P := fun x => chI ch (pIdx s.1 x)) k10 k11]
        constructor
        · rintro ⟨y, y1, y2, p, y3, y4⟩
          refine .inr ⟨p, ?_, (nOf_t e.1).mpr ⟨y, y1, y2, y3⟩, y4⟩
          rcases pIdx_get (x := y.2.2.2.2) hok.1.2.1 with ⟨z, _⟩ | ⟨p', p1, p2, _⟩ <;> omega
        · rintro (z | ⟨p, _, z1, z2⟩)
          · exact (c1 z.1).elim
          · obtain ⟨y, y1, y2, y3⟩ := (nOf_t e.1).mp z1
            exact ⟨y, y1, y2, p, y3, z2⟩
      unfold isB at b2 ⊢
      rw [← hiff]
      exact b2
end
