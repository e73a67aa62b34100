/-! THE CLASS: the SHEET: findRings() -/
/-- the texts of a moment -/
def cTt (S : Nat → Nat × Nat × Nat) (G : xG_) (tp : Nat) (X : fXs) (to : Nat → Nat) : Prop := S tp = (2, 5, 72) ∧ 226 < tp ∧ ∀ c, c < 72 → G tp c = (to c : Int) ∧ (to c = 0 ∧ X c = none ∨ 226 < to c ∧ ∃ e, X c = some e ∧ cFm S G (to c) e)
/-- the SHEET's masks -/
def cMk (G : xG_) (T : Nat → Nat) : Prop := ∀ c, c < 72 → rM9 (G 217 c) (G 218 c) (T c)
def xMk (G G' : xG_) : Prop := ∀ a j, a ≠ 217 → a ≠ 218 → G' a j = G a j
section
variable {f mo tp c : Nat} {S S' : Nat → Nat × Nat × Nat} {G G' G'' : xG_} {m : Nat × Nat} {X : fXs} {to T : Nat → Nat}
theorem cTt.ge (h : cTt S G tp X to) (hS : ∀ a, 226 < a → S' a = S a) (hG : ∀ a j, 226 < a → G' a j = G a j) : cTt S' G' tp X to := by
  obtain ⟨h1, h2, h3⟩ := h
  refine ⟨by rw [hS _ h2]; exact h1, h2, fun c hc => ?_⟩
  obtain ⟨a1, a2⟩ := h3 c hc
  refine ⟨by rw [hG _ _ h2]; exact a1, ?_⟩
  rcases a2 with q | ⟨q1, e, q2, q3⟩
  · exact .inl q
  · exact .inr ⟨q1, e, q2, q3.ge (fun a z1 z2 => hS a (by omega)) (fun a j z1 z2 => hG a j (by omega))⟩
theorem xMk.id : xMk G G := fun _ _ _ _ => rfl
theorem xMk.tr (h : xMk G G') (h' : xMk G' G'') : xMk G G'' := fun a j p q => by rw [h' a j p q, h a j p q]
theorem xMk.ps (h : xMk G G') (hp : cPs G) : cPs G' := hp.ge (fun a j hz => h a j (by
    rcases hz with z | z | z | z | z | z | z | ⟨z, z1, z2, k, z3⟩ | z | z | z | ⟨k, z1, z2, z3⟩ <;> omega) (by
    rcases hz with z | z | z | z | z | z | z | ⟨z, z1, z2, k, z3⟩ | z | z | z | ⟨k, z1, z2, z3⟩ <;> omega))
/-- isIn() -/
theorem k_101 {lo hi : Int} {x a : Nat} {T : xT_} (h : rM8 lo hi a) (hx : x < 72) : c101 f (x : Int) lo hi T = some (if a.testBit x = true then 1 else 0, T) := by
  have k := h.2 x hx
  unfold hb8 at k
  have sel : ∀ (y : Int) (b : Bool), xand8 y 1 = (if b = true then 1 else 0) → c101_18 f y T = some (if b = true then 1 else 0, T) := fun y b hb => by
    unfold c101_18 c101_30
    rw [hb]
    cases b with
    | true => rfl
    | false => rfl
  unfold c101
  by_cases c : x < 64
  · rw [if_pos c] at k
    rw [if_neg (by omega)]
    refine sel _ _ ?_
    rw [hb8_is c, k]
  · rw [if_neg c] at k
    have e : xwr ((x : Int) - 64) = ((x - 64 : Nat) : Int) := by rw [xwr_g _ (by omega) (by omega)]; omega
    rw [if_pos (by omega), e]
    refine sel _ _ ?_
    rw [hb8_is (by omega), k]
theorem st_100n {fu : Nat} (hs : cSs S) (hp : cPs G) (h0 : G 216 0 = (mo : Int)) (hm : S mo = (1, 2, 8)) (h2 : G mo 2 = (tp : Int)) (ht : S tp = (2, 5, 72)) (hc : c < 72) (hz : G tp c = 0) (hne : mo ≠ 217 ∧ tp ≠ 217) : c100_2 f (fu + 1) 216 (c : Int) (S, G, m) = c100_2 f fu 216 ((c + 1 : Nat) : Int) (S, xup2 (xup2 G 217 c 0) 218 c 0, m) := by
  have ec : xwr ((c : Int) + 1) = ((c + 1 : Nat) : Int) := by rw [xwr_g _ (by omega) (by omega)]; omega
  show c100_2b (c100_2 f fu) f 216 _ _ = _
  unfold c100_2b c100_35 c100_53
  rw [if_neg (by omega)]
  simp (disch := omega) only [cq_gi, cq_gr, cq_a, cq_s, cq_p, cq_pr, cq_is, cq_ar, cq_ab, cq_ln, xq_nz, Option.bind_some, xup2_n, xup2_s, Int.toNat_natCast, Int.reduceToNat, if_pos, if_neg, true_and, and_true, and_self, eq_self, if_true, reduceIte, not_true_eq_false, not_false_eq_true, or_true, true_or, s216 hs, s217 hs, s218 hs, p216_2 hp, p216_3 hp, h0, hm, h2, ht, hz, ec, hc]
theorem st_100y {fu o : Nat} (hs : cSs S) (hp : cPs G) (h0 : G 216 0 = (mo : Int)) (hm : S mo = (1, 2, 8)) (h2 : G mo 2 = (tp : Int)) (ht : S tp = (2, 5, 72)) (hc : c < 72) (hz : G tp c = (o : Int)) (ho : 226 < o) (hF : S o = (1, 0, 5)) (hne : mo ≠ 217 ∧ tp ≠ 217) : c100_2 f (fu + 1) 216 (c : Int) (S, G, m) = c100_2 f fu 216 ((c + 1 : Nat) : Int) (S, xup2 (xup2 G 217 c (G o 2)) 218 c (G o 3), m) := by
  have ec : xwr ((c : Int) + 1) = ((c + 1 : Nat) : Int) := by rw [xwr_g _ (by omega) (by omega)]; omega
  have o0 : ¬ o = 0 := by omega
  have o17 : ¬ o = 217 := by omega
  have o17' : ¬ (o = 217 ∧ 3 = c) := by omega
  show c100_2b (c100_2 f fu) f 216 _ _ = _
  unfold c100_2b c100_35 c100_53
  rw [if_neg (by omega)]
  simp (disch := omega) only [cq_gi, cq_gr, cq_a, cq_s, cq_p, cq_pr, cq_is, cq_ar, cq_ab, cq_ln, xq_nz, Option.bind_some, xup2_n, xup2_s, Int.toNat_natCast, Int.reduceToNat, if_pos, if_neg, true_and, and_true, and_self, eq_self, if_true, reduceIte, not_true_eq_false, not_false_eq_true, or_true, true_or, s216 hs, s217 hs, s218 hs, p216_2 hp, p216_3 hp, h0, hm, h2, ht, hz, hF, o0, o17, o17', ec, hc]
theorem k_100a (hs : cSs S) (hm : S mo = (1, 2, 8)) (hmo : 226 < mo) : ∀ (d c fu : Nat) (G : xG_), c + d = 72 → d < fu → cPs G → G 216 0 = (mo : Int) → G mo 2 = (tp : Int) → cTt S G tp X to → (∀ y, y < c → rM9 (G 217 y) (G 218 y) (xRd X y)) → ∃ G', c100_2 f fu 216 (c : Int) (S, G, m) = c100_62 f f 216 0 (S, G', m) ∧ xMk G G' ∧ cMk G' (xRd X) := by
  intro d
  induction d with
  | zero =>
    intro c fu G e1 e2 hp h0 h2 ht hy
    obtain ⟨fu, rfl⟩ : ∃ t, fu = t + 1 := ⟨fu - 1, by omega⟩
    refine ⟨G, ?_, .id, fun y hy' => hy y (by omega)⟩
    show c100_2b (c100_2 f fu) f 216 _ _ = _
    unfold c100_2b
    rw [if_pos (by omega)]
  | succ d ih =>
    intro c fu G e1 e2 hp h0 h2 ht hy
    obtain ⟨fu, rfl⟩ : ∃ t, fu = t + 1 := ⟨fu - 1, by omega⟩
    have htp := ht.2.1
    obtain ⟨t1, t2⟩ := ht.2.2 c (by omega)
    obtain ⟨u, v, hst, huv⟩ : ∃ u v, c100_2 f (fu + 1) 216 (c : Int) (S, G, m) = c100_2 f fu 216 ((c + 1 : Nat) : Int) (S, xup2 (xup2 G 217 c u) 218 c v, m) ∧ rM9 u v (xRd X c) := by
      rcases t2 with ⟨z1, z2⟩ | ⟨z1, e, z2, z3⟩
      · refine ⟨0, 0, st_100n hs hp h0 hm h2 ht.1 (by omega) (by rw [t1, z1]; rfl) (by omega), ?_⟩
        unfold xRd
        rw [z2]
        exact .z
      · obtain ⟨C, F, ⟨k1, _⟩, _, _, k7, _⟩ := z3
        refine ⟨_, _, st_100y hs hp h0 hm h2 ht.1 (by omega) t1 z1 k1 (by omega), ?_⟩
        unfold xRd
        rw [z2]
        exact k7
    have hx : xMk G (xup2 (xup2 G 217 c u) 218 c v) := fun a j q1 q2 => by rw [xup2_n (by omega), xup2_n (by omega)]
    obtain ⟨G', i1, i2, i3⟩ := ih (c + 1) fu (xup2 (xup2 G 217 c u) 218 c v) (by omega) (by omega) (hx.ps hp) (by rw [hx _ _ (by omega) (by omega)]; exact h0) (by rw [hx _ _ (by omega) (by omega)]; exact h2) (ht.ge (fun _ _ => rfl) (fun a j q => hx a j (by omega) (by omega))) (fun y hy' => by
      by_cases cy : y = c
      · rw [cy, xup2_s, xup2_n (by omega), xup2_s]; exact huv
      · rw [xup2_n (by omega), xup2_n (by omega), xup2_n (by omega), xup2_n (by omega)]
        exact hy y (by omega))
    exact ⟨G', by rw [hst, i1], hx.tr i2, i3⟩
theorem ga8 {a k : Nat} (hS : S a = (2, 4, 72)) (hk : k < 72) : cq_a 4 a (k : Int) (S, G, m) = some (G a k) := by
  unfold cq_a
  show (if (S a).1 = 2 ∧ (S a).2.1 = 4 ∧ 0 ≤ (k : Int) ∧ (k : Int) < ((S a).2.2 : Int) then some (G a (k : Int).toNat) else none) = _
  rw [hS, if_pos ⟨rfl, rfl, by omega, by show (k : Int) < ((72 : Nat) : Int); omega⟩, Int.toNat_natCast]
theorem gs8 {a k : Nat} {v : Int} (hS : S a = (2, 4, 72)) (hk : k < 72) : cq_s 4 a (k : Int) v (S, G, m) = some (S, xup2 G a k v, m) := by
  unfold cq_s
  show (if (S a).1 = 2 ∧ (S a).2.1 = 4 ∧ 0 ≤ (k : Int) ∧ (k : Int) < ((S a).2.2 : Int) then _ else none) = _
  rw [hS, if_pos ⟨rfl, rfl, by omega, by show (k : Int) < ((72 : Nat) : Int); omega⟩]
  rfl
theorem g72 (hs : cSs S) (hp : cPs G) : cq_gr 7 2 5 216 (S, G, m) = some 217 ∧ cq_gr 7 3 5 216 (S, G, m) = some 218 := by
  refine ⟨?_, ?_⟩
  · show (if S 216 = (1, 7, 5) then some (G 216 2).toNat else none) = _
    rw [if_pos (s216 hs), p216_2 hp]; rfl
  · show (if S 216 = (1, 7, 5) then some (G 216 3).toNat else none) = _
    rw [if_pos (s216 hs), p216_3 hp]; rfl
theorem k_100i {v : Nat} {r62 : Nat → Int → xT_ → Option xT_} (hs : cSs S) (hv : v < 72) : ∀ (d c fu : Nat) (G : xG_), c + d = 72 → d < fu → cPs G → cMk G (qW1 T v c) → ∃ G', c100_98 r62 f fu 216 (v : Int) 1 (c : Int) (S, G, m) = r62 216 ((v + 1 : Nat) : Int) (S, G', m) ∧ xMk G G' ∧ cMk G' (qW1 T v 72) := by
  have ev : xwr ((v : Int) + 1) = ((v + 1 : Nat) : Int) := by rw [xwr_g _ (by omega) (by omega)]; omega
  intro d
  induction d with
  | zero =>
    intro c fu G e1 e2 hp hM
    obtain ⟨fu, rfl⟩ : ∃ t, fu = t + 1 := ⟨fu - 1, by omega⟩
    have : c = 72 := by omega
    refine ⟨G, ?_, .id, by rw [this] at hM; exact hM⟩
    show c100_98b r62 (c100_98 r62 f fu) f 216 _ _ _ _ = _
    unfold c100_98b c100_163
    rw [if_neg (by decide), if_pos (by omega), ev]
  | succ d ih =>
    intro c fu G e1 e2 hp hM
    obtain ⟨fu, rfl⟩ : ∃ t, fu = t + 1 := ⟨fu - 1, by omega⟩
    have ec : xwr ((c : Int) + 1) = ((c + 1 : Nat) : Int) := by rw [xwr_g _ (by omega) (by omega)]; omega
    have hc := hM c (by omega)
    have hvv := hM v hv
    rw [qW1_ii] at hc
    rw [qW1_vv] at hvv
    have e101 := k_101 (f := f) (T := (S, G, m)) hc.1 hv
    obtain ⟨g2, g3⟩ := g72 (m := m) hs hp
    by_cases cb : (T c).testBit v = true
    · rw [if_pos cb] at e101
      have hx1 : xMk G (xup2 G 217 c (xor8 (G 217 c) (G 217 v))) := fun a j q1 q2 => xup2_n (by omega)
      have hx : xMk G (xup2 (xup2 G 217 c (xor8 (G 217 c) (G 217 v))) 218 c (xor8 (G 218 c) (G 218 v))) := fun a j q1 q2 => by rw [xup2_n (by omega), xup2_n (by omega)]
      obtain ⟨_, g3'⟩ := g72 (m := m) hs (hx1.ps hp)
      have b1 : ∀ k, xup2 G 217 c (xor8 (G 217 c) (G 217 v)) 218 k = G 218 k := fun k => xup2_n (by omega)
      have st : c100_98 r62 f (fu + 1) 216 (v : Int) 1 (c : Int) (S, G, m) = c100_98 r62 f fu 216 (v : Int) 1 ((c + 1 : Nat) : Int) (S, xup2 (xup2 G 217 c (xor8 (G 217 c) (G 217 v))) 218 c (xor8 (G 218 c) (G 218 v)), m) := by
        show c100_98b r62 (c100_98 r62 f fu) f 216 _ _ _ _ = _
        unfold c100_98b c100_157
        rw [if_neg (by decide), if_neg (by omega), g2, Option.bind_some, ga8 (s217 hs) (by omega), Option.bind_some, g3, Option.bind_some, ga8 (s218 hs) (by omega), Option.bind_some, e101, Option.bind_some, if_neg (show ¬ (1 : Int) = 0 by decide), g2, Option.bind_some, ga8 (s217 hs) (by omega), Option.bind_some, Option.bind_some, ga8 (s217 hs) hv, Option.bind_some, gs8 (s217 hs) (by omega), Option.bind_some, g3', Option.bind_some, ga8 (s218 hs) (by omega), Option.bind_some, Option.bind_some, ga8 (s218 hs) hv, Option.bind_some, gs8 (s218 hs) (by omega), Option.bind_some, b1, b1, ec]
      obtain ⟨G', i1, i2, i3⟩ := ih (c + 1) fu _ (by omega) (by omega) (hx.ps hp) (fun y hy => by
        rw [qW1_n]
        by_cases cy : y = c
        · rw [if_pos ⟨cy, cb⟩, cy, xup2_s, xup2_n (by omega), xup2_s]
          exact hc.or hvv
        · rw [if_neg (fun z => cy z.1), xup2_n (by omega), xup2_n (by omega), xup2_n (by omega), xup2_n (by omega)]
          exact hM y hy)
      exact ⟨G', by rw [st, i1], hx.tr i2, i3⟩
    · rw [if_neg cb] at e101
      have st : c100_98 r62 f (fu + 1) 216 (v : Int) 1 (c : Int) (S, G, m) = c100_98 r62 f fu 216 (v : Int) 1 ((c + 1 : Nat) : Int) (S, G, m) := by
        show c100_98b r62 (c100_98 r62 f fu) f 216 _ _ _ _ = _
        unfold c100_98b c100_157
        rw [if_neg (by decide), if_neg (by omega), g2, Option.bind_some, ga8 (s217 hs) (by omega), Option.bind_some, g3, Option.bind_some, ga8 (s218 hs) (by omega), Option.bind_some, e101, Option.bind_some, if_pos rfl, ec]
      obtain ⟨G', i1, i2, i3⟩ := ih (c + 1) fu G (by omega) (by omega) hp (fun y hy => by
        rw [qW1_n, if_neg (fun z => cb z.2)]
        exact hM y hy)
      exact ⟨G', by rw [st, i1], i2, i3⟩
theorem rM9_0 {a : Nat} (h : rM9 0 0 a) : a = 0 := by
  apply Nat.eq_of_testBit_eq
  intro i
  rw [Nat.zero_testBit]
  by_cases c : i < 72
  · rw [← h.1.2 i c, (rM9.z).1.2 i c, Nat.zero_testBit]
  · exact Nat.testBit_lt_two_pow (Nat.lt_of_lt_of_le h.1.1 (Nat.pow_le_pow_right (by decide) (by omega)))
theorem k_100o (hs : cSs S) (hf : 100 < f) : ∀ (d v fu : Nat) (G : xG_), v + d = 72 → d < fu → cPs G → cMk G (qWm 72 T v) → ∃ G', c100_62 f fu 216 (v : Int) (S, G, m) = some (S, G', m) ∧ xMk G G' ∧ cMk G' (qWm 72 T 72) := by
  intro d
  induction d with
  | zero =>
    intro v fu G e1 e2 hp hM
    obtain ⟨fu, rfl⟩ : ∃ t, fu = t + 1 := ⟨fu - 1, by omega⟩
    have : v = 72 := by omega
    refine ⟨G, ?_, .id, by rw [this] at hM; exact hM⟩
    show c100_62b (c100_62 f fu) f 216 _ _ = _
    unfold c100_62b
    rw [if_pos (by omega)]
  | succ d ih =>
    intro v fu G e1 e2 hp hM
    obtain ⟨fu, rfl⟩ : ∃ t, fu = t + 1 := ⟨fu - 1, by omega⟩
    have ev : xwr ((v : Int) + 1) = ((v + 1 : Nat) : Int) := by rw [xwr_g _ (by omega) (by omega)]; omega
    obtain ⟨g2, g3⟩ := g72 (m := m) hs hp
    have hvv := hM v (by omega)
    have e0 : c100_62 f (fu + 1) 216 (v : Int) (S, G, m) = if G 217 v = 0 ∧ G 218 v = 0 then c100_62 f fu 216 ((v + 1 : Nat) : Int) (S, G, m) else c100_98 (c100_62 f fu) f f 216 (v : Int) 1 0 (S, G, m) := by
      show c100_62b (c100_62 f fu) f 216 _ _ = _
      unfold c100_62b c100_90 c100_95
      rw [if_neg (by omega), g2, Option.bind_some, ga8 (s217 hs) (by omega), Option.bind_some]
      by_cases c1 : G 217 v = 0
      · rw [if_neg (fun z => z c1), g3, Option.bind_some, ga8 (s218 hs) (by omega), Option.bind_some]
        by_cases c2 : G 218 v = 0
        · rw [if_pos c2, if_pos ⟨c1, c2⟩]
          obtain ⟨g, rfl⟩ : ∃ t, f = t + 1 := ⟨f - 1, by omega⟩
          show c100_98b (c100_62 (g + 1) fu) (c100_98 (c100_62 (g + 1) fu) (g + 1) g) (g + 1) 216 _ _ _ _ = _
          unfold c100_98b c100_163
          rw [if_pos rfl, ev]
        · rw [if_neg c2, if_neg (fun z => c2 z.2)]
      · rw [if_pos c1, if_neg (fun z => c1 z.1)]
    rw [e0]
    by_cases cz : G 217 v = 0 ∧ G 218 v = 0
    · rw [if_pos cz]
      rw [cz.1, cz.2] at hvv
      have tz := rM9_0 hvv
      have eq : qWm 72 T (v + 1) = qWm 72 T v := by
        funext y
        show qW1 (qWm 72 T v) v 72 y = _
        unfold qW1
        split
        · rw [tz, Nat.or_zero]
        · rfl
      rw [← eq] at hM
      exact ih (v + 1) fu G (by omega) (by omega) hp hM
    · rw [if_neg cz]
      obtain ⟨G1, i1, i2, i3⟩ := k_100i (T := qWm 72 T v) (r62 := c100_62 f fu) (f := f) (m := m) hs (by omega : v < 72) 72 0 f G (by omega) (by omega) hp (by rw [qW1_00]; exact hM)
      obtain ⟨G', j1, j2, j3⟩ := ih (v + 1) fu G1 (by omega) (by omega) (i2.ps hp) i3
      exact ⟨G', i1.trans j1, i2.tr j2, j3⟩
/-- findRings() -/
theorem k_100 (hf : 100 < f) (hs : cSs S) (hp : cPs G) (hm : S mo = (1, 2, 8)) (hmo : 226 < mo) (h0 : G 216 0 = (mo : Int)) (h2 : G mo 2 = (tp : Int)) (ht : cTt S G tp X to) : ∃ G', c100 f 216 (S, G, m) = some (S, G', m) ∧ xMk G G' ∧ cMk G' (xFr X) := by
  obtain ⟨G1, a1, a2, a3⟩ := k_100a (f := f) (m := m) hs hm hmo 72 0 f G (by omega) (by omega) hp h0 h2 ht (fun y hy => absurd hy (Nat.not_lt_zero y))
  obtain ⟨G', b1, b2, b3⟩ := k_100o (T := xRd X) (m := m) hs hf 72 0 f G1 (by omega) (by omega) (a2.ps hp) a3
  exact ⟨G', a1.trans b1, a2.tr b2, b3⟩
end
