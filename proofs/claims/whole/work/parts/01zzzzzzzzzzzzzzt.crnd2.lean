/-! THE CLASS: round(), begin and tell -/
section
variable {f ln mo q : Nat} {S S1 : Nat → Nat × Nat × Nat} {G G1 : xG_} {m m1 : Nat × Nat}
theorem sw_173b {x3 b : Int} {r : Nat} {T : xT_} (hs : cSs S) (hp : cPs G) (hs1 : cSs S1) (hp1 : cPs G1) (s93 : S 93 = (1, 10, 18)) (s93' : S1 93 = (1, 10, 18)) (ls : S1 ln = (1, 1, 14)) (e1 : c145 f 93 mo q (S, G, m) = some (S1, G1, m1)) (h1 : G1 ln 1 = (r : Int)) (hr : r < 1000) (e2 : r + 1 < 520 → c146 f 93 ln (S1, G1, m1) = some (b, T)) : c173_43 f 64 ln mo x3 q (S, G, m) = if r + 1 < 520 then c173_88 f f 64 ln mo x3 q (if b = 0 then 0 else 1) 0 T else c173_88 f f 64 ln mo x3 q 0 0 (S1, G1, m1) := by
  have i1 : cq_is 10 18 93 (S, G, m) = some () := if_pos s93
  have i2 : cq_is 10 18 93 (S1, G1, m1) = some () := if_pos s93'
  have w : xwr ((r : Int) + 1) = ((r + 1 : Nat) : Int) := by rw [xwr_g _ (by omega) (by omega)]; omega
  unfold c173_43 c173_82 c173_83
  rw [o_gr (y := 93) (s64 hs) (p64_3 hp), Option.bind_some, i1, Option.bind_some, e1, Option.bind_some, o_gi ls, Option.bind_some, h1, w]
  by_cases c : r + 1 < 520
  · rw [if_neg (show ¬ (520 : Int) ≤ ((r + 1 : Nat) : Int) by omega), if_pos c, o_gr (y := 93) (s64 hs1) (p64_3 hp1), Option.bind_some, i2, Option.bind_some, e2 c, Option.bind_some]
    by_cases cb : b = 0
    · rw [if_pos cb, if_pos cb]
    · rw [if_neg cb, if_neg cb]
  · rw [if_pos (show (520 : Int) ≤ ((r + 1 : Nat) : Int) by omega), if_neg c]
/-- a round that can't be: its rings are not worked -/
theorem sw_173z {x3 x6 : Int} {fu : Nat} {T : xT_} : c173_88 f (fu + 1) 64 ln mo x3 q 0 x6 T = c173_127 f 64 ln mo x3 0 T := by
  show c173_88b (c173_88 f fu) f 64 _ _ _ _ _ _ _ = _
  unfold c173_88b
  rw [if_pos rfl]
end
