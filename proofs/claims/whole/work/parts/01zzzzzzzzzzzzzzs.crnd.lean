/-! THE CLASS: round(), its joints -/
section
variable {f ln mo be hr q : Nat} {S : Nat → Nat × Nat × Nat} {G : xG_} {m : Nat × Nat}
theorem k_6 {r a b : Int} (ls : S ln = (1, 1, 14)) (h1 : G ln 1 = b) (h2 : G ln 2 = a) : c6 f ln r (S, G, m) = some (if a ≤ r ∧ r ≤ b then 1 else 0, (S, G, m)) := by
  unfold c6 c6_20 c6_21
  rw [o_gi ls, Option.bind_some, h2]
  by_cases c1 : r < a
  · rw [if_pos c1, if_neg (show ¬ (a ≤ r ∧ r ≤ b) by omega)]; rfl
  · rw [if_neg c1, o_gi ls, Option.bind_some, h1]
    by_cases c2 : b < r
    · rw [if_pos c2, if_neg (show ¬ (a ≤ r ∧ r ≤ b) by omega)]; rfl
    · rw [if_neg c2, if_pos (show a ≤ r ∧ r ≤ b by omega)]; rfl
/-- the start: which program the round is of -/
theorem sw_173s {e r : Nat} (hs : cSs S) (hp : cPs G) (h6 : G 64 6 = (hr : Int)) (hr4 : hr < 4) (hl : ln = 243 + 9 * hr) (h1 : G ln 1 = (r : Int)) (hrr : r < 520) (hm : G (ln + 1) r = (mo : Int)) (sm : S mo = (1, 2, 8)) (h0 : G mo 0 = (q : Int)) (h7 : G ln 7 = (e : Int)) : c173 f 64 (S, G, m) = if e = 0 then c173_43 f 64 ln mo 0 q (S, G, m) else c173_43 f 64 ln mo 1 e (S, G, m) := by
  have ls := lnSt_of hs hr4
  have lp := lnPt_of hp hr4
  have pl := p_ln hp hr4
  rw [← hl] at ls lp pl
  have e5 := k_5 (f := f) (m := m) ls lp h1 hrr hm
  have i1 : cq_is 1 14 ln (S, G, m) = some () := if_pos ls.1
  have g6 : cq_gi 11 6 17 64 (S, G, m) = some (hr : Int) := by rw [o_gi (s64 hs), h6]
  unfold c173
  rw [o_gr (y := 220) (s64 hs) (p64_5 hp), Option.bind_some, g6, Option.bind_some, o_ar (s220 hs) (by decide) hr4 pl, Option.bind_some, i1, Option.bind_some, e5, Option.bind_some, o_gr ls.1 h7, Option.bind_some]
  by_cases c : e = 0
  · rw [if_pos c, if_pos c]
    unfold c173_27
    rw [if_pos rfl, o_gr sm h0, Option.bind_some]
  · rw [if_neg c, if_neg c]
    unfold c173_27
    rw [if_neg (by decide), o_gr ls.1 h7, Option.bind_some]
/-- the round is refused -/
theorem sw_173f {x3 v : Int} {T : xT_} (hs : cSs S) (ls : S ln = (1, 1, 14)) (h8 : G 64 8 = v) (hv : 0 ≤ v ∧ v ≤ 100000) (e7 : c7 f ln (S, xup2 G 64 8 (v + 1), m) = some T) : c173_127 f 64 ln mo x3 0 (S, G, m) = some (-1, T) := by
  have w : xwr (v + 1) = v + 1 := xwr_g _ (by omega) (by omega)
  have i1 : cq_is 1 14 ln (S, xup2 G 64 8 (v + 1), m) = some () := if_pos ls
  unfold c173_127
  rw [if_neg (fun z => z rfl), o_gi (s64 hs), Option.bind_some, h8, w, o_p (s64 hs), Option.bind_some, i1, Option.bind_some, e7, Option.bind_some]
/-- the round is made -/
theorem sw_173m {x3 v c13 c14 : Int} {S1 S2 : Nat → Nat × Nat × Nat} {G1 G2 G3 G4 G5 : xG_} {m1 m2 : Nat × Nat} (hs1 : cSs S1) (hs2 : cSs S2) (hp : cPs G) (hp1 : cPs G1) (hp2 : cPs G2) (hs : cSs S) (s93 : S 93 = (1, 10, 18)) (s93' : S1 93 = (1, 10, 18)) (s932 : S2 93 = (1, 10, 18)) (ls : S2 ln = (1, 1, 14)) (sb : S2 be = (1, 2, 8)) (hbe : be ≠ 64) (e1 : c162 f 93 mo x3 (S, G, m) = some (be, (S1, G1, m1))) (h13 : G1 93 13 = c13) (e2 : c99 f 216 mo be ln c13 (S1, G1, m1) = some (S2, G2, m2)) (h14 : G2 93 14 = c14) (e3 : c10 f ln c14 x3 (S2, G2, m2) = some (S2, G3, m2)) (e4 : c11 f ln be (S2, G3, m2) = some (S2, G4, m2)) (e5 : c7 f ln (S2, G4, m2) = some (S2, G5, m2)) (h4 : G5 be 4 = v) {x5 : Int} (hx : ¬ x5 = 0) : c173_127 f 64 ln mo x3 x5 (S, G, m) = some (v, (S2, xup2 (xup2 G5 64 12 (mo : Int)) 64 13 (be : Int), m2)) := by
  have i1 : cq_is 10 18 93 (S, G, m) = some () := if_pos s93
  have i2 : cq_is 7 5 216 (S1, G1, m1) = some () := if_pos (s216 hs1)
  have i3 : ∀ G' : xG_, cq_is 1 14 ln (S2, G', m2) = some () := fun G' => if_pos ls
  have hv : xup2 (xup2 G5 64 12 (mo : Int)) 64 13 (be : Int) be 4 = v := by rw [xup2_n (by omega), xup2_n (by omega)]; exact h4
  unfold c173_127
  rw [if_pos hx, o_gr (y := 93) (s64 hs) (p64_3 hp), Option.bind_some, i1, Option.bind_some, e1, Option.bind_some, o_gr (y := 216) (s64 hs1) (p64_4 hp1), Option.bind_some, o_gr (y := 93) (s64 hs1) (p64_3 hp1), Option.bind_some, o_gi s93', Option.bind_some, h13, i2, Option.bind_some, e2, Option.bind_some, o_gr (y := 93) (s64 hs2) (p64_3 hp2), Option.bind_some, o_gi s932, Option.bind_some, h14, i3, Option.bind_some, e3, Option.bind_some, i3, Option.bind_some, e4, Option.bind_some, i3, Option.bind_some, e5, Option.bind_some, o_pr (s64 hs2), Option.bind_some, o_pr (s64 hs2), Option.bind_some, o_gi sb, Option.bind_some, hv]
end
