section
/-! THE CLASS: the house as it is made -/
/-- the class's cells behind all constructors: those of the reference don't count -/
def S00 : Nat → Nat × Nat × Nat := fun a => if 279 ≤ a ∧ a < 555 then (0, 0, 0) else t03.1 a
theorem S00_s {k : Nat} (hk : k < 215) : S00 (64 + k) = cl_S.getD k (0, 0, 0) := by
  unfold S00
  rw [if_neg (by omega)]
  exact t03_s k hk
theorem S00_c : cSs S00 := fun k hk => S00_s hk
theorem S00_5 : S00 555 = (2, 4, 1) := by
  unfold S00
  rw [if_neg (by omega)]
  exact t03_5
theorem qOc_0 : qOc s00 := ⟨qOk_0, fun u hu => (by cases hu), fun u hu => (by cases hu), fun p hp => absurd hp (Nat.not_lt_zero p), fun x hx => (by cases hx), List.nodup_nil, fun p hp => absurd hp (Nat.not_lt_zero p)⟩
theorem cPgm_0 : cPgm S00 t03.2.1 229 243 s00 := by
  have s := fun {k} (hk : k < 215) => S00_s hk
  obtain ⟨q0, q1, q8, q12, q2, q3, q4, q5, q6, q7, q9, q10, q11, q13⟩ := t03_q
  refine ⟨⟨s (k := 165) (by decide), s (k := 166) (by decide), s (k := 167) (by decide), s (k := 168) (by decide), s (k := 169) (by decide), s (k := 170) (by decide), s (k := 171) (by decide), s (k := 172) (by decide), s (k := 173) (by decide), s (k := 174) (by decide), s (k := 175) (by decide)⟩, ⟨q2, q3, q4, q5, q6, q7, q9, q10, q11, q13⟩, ⟨q1, by decide, fun k hk => absurd hk (Nat.not_lt_zero _)⟩, fun p hp => (t03_a p hp).1, fun p hp => ⟨(t03_a p hp).2.1, (t03_a p hp).2.2.1, (t03_a p hp).2.2.2.1⟩, ⟨q8, by decide, fun r hr => absurd hr (Nat.not_lt_zero _)⟩, fun p hp => (t03_a p hp).2.2.2.2.1, ⟨fun p hp => absurd hp (Nat.not_lt_zero _), fun p hp => (t03_a p hp).2.2.2.2.2, [], ⟨0, by decide, fun j => ⟨fun z => (by rw [Nat.zero_testBit] at z; cases z), fun z => absurd z.1 (Nat.not_lt_zero _)⟩, List.nodup_nil, fun g hg => (by cases hg), fun k hk => absurd hk (Nat.not_lt_zero _)⟩, ⟨q12, fun k hk => absurd hk (Nat.not_lt_zero _)⟩, fun x hx => absurd hx (Nat.not_lt_zero _)⟩, by decide⟩
def P00 : Nat → Nat := fun e => if e = 0 then 229 else 0
theorem P00_0 {e : Nat} (h : P00 e ≠ 0) : e = 0 := by
  unfold P00 at h
  by_cases c : e = 0
  · exact c
  · rw [if_neg c] at h
    exact absurd rfl h
theorem cEd_0 : cEd [[]] S00 t03.2.1 556 P00 := by
  refine ⟨fun e he => ?_, fun e e' he he' _ => by rw [P00_0 he, P00_0 he']⟩
  have e0 := P00_0 he
  subst e0
  refine ⟨by decide, ⟨s00, 243, qPr_0, qOc_0, cPgm_0, by decide, .inl ⟨rfl, Nat.le_refl _⟩⟩, ?_, ?_⟩
  · show 0 ≤ t03.2.1 229 0
    rw [t03_q.1]; exact Int.le_refl _
  · show t03.2.1 229 0 ≤ t03.2.1 64 7
    rw [t03_q.1, t03_64.2.1]; exact Int.le_refl _
theorem xOf_00 (c : Nat) : xOf [[]] (fun _ => 0) c = none := rfl
theorem cMo_0 : cMo [[]] S00 t03.2.1 556 P00 228 mo0 := by
  have s := fun {k} (hk : k < 215) => S00_s hk
  obtain ⟨o0, o1, o2, o3, o7⟩ := t03_o
  have sf : ∀ {a : Nat}, 227 < a → a < 243 → sfP 556 a := fun {a} y1 y2 => ⟨by omega, .inl ⟨y1, y2⟩⟩
  refine ⟨s00, fun _ => [], 240, fun _ => 0, fun _ => 0, 241, 242, fun _ => 0, isMo_0, fun p hp => absurd hp (Nat.not_lt_zero _), ⟨s (k := 164) (by decide), o0, o1, s (k := 176) (by decide), fun p hp => absurd hp (Nat.not_lt_zero _)⟩, ⟨o2, s (k := 177) (by decide), by decide, fun c hc => ⟨(t03_c c hc).1, .inl ⟨rfl, rfl⟩⟩⟩, ⟨o3, s (k := 178) (by decide), fun x hx => (t03_c x hx).2⟩, by decide, ⟨sf (by decide) (by decide), sf (by decide) (by decide), sf (by decide) (by decide), sf (by decide) (by decide)⟩, fun p hp => absurd hp (Nat.not_lt_zero _), fun c hc => .inl rfl⟩
theorem cLn_0 {y : Nat} (hy : y < 4) : cLn [[]] S00 t03.2.1 556 P00 (243 + 9 * y) ln0 := by
  obtain ⟨l1, l2, l3, l7, l8, l0⟩ := t03_l y hy
  refine ⟨⟨⟨l1, l2⟩, fun _ => 228, fun r r1 r2 => ?_, fun r r1 r2 => ?_⟩, ⟨t03_w y hy, fun c hc => (t03_d y hy c hc).1⟩, .inl ⟨rfl, l7⟩, ⟨s00, qPr_0, l8, by decide, fun i hi => absurd hi (Nat.not_lt_zero _)⟩, ⟨fun _ => 0, fun c hc => ⟨⟨fun _ => rfl, fun _ => (t03_d y hy c hc).2.1⟩, (t03_d y hy c hc).2.2, .inl ⟨rfl, rfl⟩⟩⟩, l3, fun z => absurd rfl z⟩
  · have e : r = 0 := by
      have : r ≤ 0 := r2
      omega
    subst e
    exact ⟨l0, cMo_0, 0, t03_o.2.2.2.2, rfl⟩
  · have a1 : 0 < r := r1
    have a2 : r ≤ 0 := r2
    omega
/-- the first state -/
theorem c_init : cHs S00 t03.2.1 556 hs0 0 := by
  obtain ⟨g6, g7, g8, g9, g10, g11, g13, g15, g16, g65⟩ := t03_64
  obtain ⟨r0, r1, r2, r3⟩ := t03_r
  have s := fun {k} (hk : k < 215) => S00_s hk
  refine ⟨⟨S00_c, t03_p, fun w h1 h4 => ?_, by decide⟩, ⟨P00, cEd_0, fun y hy => cLn_0 hy, ⟨fun _ => g13, fun z => (by cases z)⟩⟩, ⟨by decide, g6⟩, ⟨by rw [g7]; decide, by rw [g7]; decide⟩, g8, g9, cTx.nil g65, ⟨221, 224, .inl ⟨rfl, rfl⟩, g10, g11, 8, fun z => absurd rfl z, s (k := 157) (by decide), ⟨4000, s (k := 158) (by decide), by decide, by decide⟩, s (k := 159) (by decide), ⟨r0, r1, r2, r3⟩, by decide, by decide, by decide, fun i hi => absurd hi (Nat.not_lt_zero _)⟩, ⟨g15, g16, by decide, fun j hj => absurd hj (Nat.not_lt_zero _)⟩⟩
  obtain ⟨x, rfl⟩ : ∃ x, w = x + 1 := ⟨w - 1, by omega⟩
  have := t03_m x (by omega)
  rw [show 201 + 3 * (x + 1) = 204 + 3 * x by omega]
  exact this
end
