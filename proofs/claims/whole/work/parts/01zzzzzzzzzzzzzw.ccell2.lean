/-! THE CLASS: cell() -/
section
variable {f A sl hr : Nat} {S : Nat → Nat × Nat × Nat} {G G' : xG_} {m : Nat × Nat} {tx : List Int}
theorem st_1002_w {x : Int} (hs : cSs S) (hp : cPs G) (e2 : G 72 2 = x) : c1002_25 f 64 0 (-1) (S, G, m) = some (xwr (-1 - x), (S, xup2 G 65 1 0, m)) := by
  unfold c1002_25 c1002_41
  simp (disch := omega) only [cq_gi, cq_gr, cq_a, cq_s, cq_p, cq_pr, cq_is, cq_ar, cq_ab, cq_ln, xq_nz, Option.bind_some, xup2_n, xup2_s, Int.toNat_natCast, Int.reduceToNat, if_pos, if_neg, true_and, and_true, and_self, eq_self, if_true, reduceIte, not_true_eq_false, not_false_eq_true, or_true, true_or, s64 hs, s65 hs, s72 hs, p64_0 hp, p64_1 hp, e2]
theorem st_1002_1 {x o ln : Nat} (hs : cSs S) (hp : cPs G) (ls : lnSt S ln) (lp : lnPt G ln) (hl : 242 < ln) (h6 : G 64 6 = (hr : Int)) (hr4 : hr < 4) (h220 : G 220 hr = (ln : Int)) (hx : x < 72) (e6 : G 72 6 = (o : Int)) (ho : o = 0 ∨ S o = (1, 0, 5)) : c1002_25 f 64 1 (x : Int) (S, G, m) = some ((x : Int), (S, xup2 (xup2 (xup2 G 65 1 0) (ln + 7) x 1) (ln + 8) x (o : Int), m)) := by
  obtain ⟨l0, _, _, _, _, _, _, l7, l8⟩ := ls
  obtain ⟨_, _, _, _, _, _, q12, q13⟩ := lp
  have hln : ln ≠ 64 ∧ ln ≠ 65 ∧ ln ≠ 72 ∧ ln ≠ 220 := by omega
  have esb : cq_sb (ln + 7) (x : Int) 1 (S, xup2 G 65 1 0, m) = some (S, xup2 (xup2 G 65 1 0) (ln + 7) x 1, m) := by
    unfold cq_sb cq_s
    show (if (S (ln + 7)).2.1 = 1 then _ else if (S (ln + 7)).2.1 = 0 then (if (S (ln + 7)).1 = 2 ∧ (S (ln + 7)).2.1 = 0 ∧ 0 ≤ (x : Int) ∧ (x : Int) < ((S (ln + 7)).2.2 : Int) then _ else _) else _) = _
    rw [l7, if_neg (by decide), if_pos rfl, if_pos ⟨rfl, rfl, by omega, by show (x : Int) < ((72 : Nat) : Int); omega⟩]
    rfl
  have esr : cq_sr (ln + 8) (x : Int) o (S, xup2 (xup2 G 65 1 0) (ln + 7) x 1, m) = some (S, xup2 (xup2 (xup2 G 65 1 0) (ln + 7) x 1) (ln + 8) x (o : Int), m) := by
    unfold cq_sr
    show (if (S (ln + 8)).1 = 2 ∧ 5 ≤ (S (ln + 8)).2.1 ∧ 0 ≤ (x : Int) ∧ (x : Int) < ((S (ln + 8)).2.2 : Int) ∧ (o = 0 ∨ (S o).1 = 1 ∧ (S (ln + 8)).2.1 = (S o).2.1 + 5) then _ else _) = _
    rw [l8, if_pos ⟨rfl, by decide, by omega, by show (x : Int) < ((72 : Nat) : Int); omega, by
      rcases ho with q | q
      · exact .inl q
      · right; rw [q]; exact ⟨rfl, rfl⟩⟩]
    rfl
  have e220 : cq_ar 220 (hr : Int) (S, xup2 G 65 1 0, m) = some ln := by
    unfold cq_ar
    show (if (S 220).1 = 2 ∧ 5 ≤ (S 220).2.1 ∧ 0 ≤ (hr : Int) ∧ (hr : Int) < ((S 220).2.2 : Int) then some (xup2 G 65 1 0 220 (hr : Int).toNat).toNat else none) = _
    rw [s220 hs, if_pos ⟨rfl, by decide, by omega, by show (hr : Int) < ((4 : Nat) : Int); omega⟩, Int.toNat_natCast, xup2_n (by omega), h220, Int.toNat_natCast]
  have w1 : xup2 G 65 1 0 64 0 = 65 := by rw [xup2_n (by omega)]; exact p64_0 hp
  have w2 : xup2 G 65 1 0 64 5 = 220 := by rw [xup2_n (by omega)]; exact p64_5 hp
  have w3 : xup2 G 65 1 0 64 6 = (hr : Int) := by rw [xup2_n (by omega)]; exact h6
  have w4 : xup2 G 65 1 0 ln 12 = ((ln + 7 : Nat) : Int) := by rw [xup2_n (by omega)]; exact q12
  have w5 : xup2 (xup2 G 65 1 0) (ln + 7) x 1 ln 13 = ((ln + 8 : Nat) : Int) := by rw [xup2_n (by omega), xup2_n (by omega)]; exact q13
  have w6 : xup2 (xup2 G 65 1 0) (ln + 7) x 1 64 1 = 72 := by rw [xup2_n (by omega), xup2_n (by omega)]; exact p64_1 hp
  have w7 : xup2 (xup2 G 65 1 0) (ln + 7) x 1 72 6 = (o : Int) := by rw [xup2_n (by omega), xup2_n (by omega)]; exact e6
  have g0 : cq_gr 11 0 17 64 (S, G, m) = some 65 := by
    show (if S 64 = (1, 11, 17) then some (G 64 0).toNat else none) = _
    rw [if_pos (s64 hs), p64_0 hp]; rfl
  have g1 : cq_p 8 1 8 65 0 (S, G, m) = some (S, xup2 G 65 1 0, m) := if_pos (s65 hs)
  have g2 : cq_gr 11 5 17 64 (S, xup2 G 65 1 0, m) = some 220 := by
    show (if S 64 = (1, 11, 17) then some (xup2 G 65 1 0 64 5).toNat else none) = _
    rw [if_pos (s64 hs), w2]; rfl
  have g3 : cq_gi 11 6 17 64 (S, xup2 G 65 1 0, m) = some (hr : Int) := by
    show (if S 64 = (1, 11, 17) then some (xup2 G 65 1 0 64 6) else none) = _
    rw [if_pos (s64 hs), w3]
  have g4 : cq_gr 1 12 14 ln (S, xup2 G 65 1 0, m) = some (ln + 7) := by
    show (if S ln = (1, 1, 14) then some (xup2 G 65 1 0 ln 12).toNat else none) = _
    rw [if_pos l0, w4, Int.toNat_natCast]
  have g5 : cq_gr 1 13 14 ln (S, xup2 (xup2 G 65 1 0) (ln + 7) x 1, m) = some (ln + 8) := by
    show (if S ln = (1, 1, 14) then some (xup2 (xup2 G 65 1 0) (ln + 7) x 1 ln 13).toNat else none) = _
    rw [if_pos l0, w5, Int.toNat_natCast]
  have g6 : cq_gr 11 1 17 64 (S, xup2 (xup2 G 65 1 0) (ln + 7) x 1, m) = some 72 := by
    show (if S 64 = (1, 11, 17) then some (xup2 (xup2 G 65 1 0) (ln + 7) x 1 64 1).toNat else none) = _
    rw [if_pos (s64 hs), w6]; rfl
  have g7 : cq_gr 4 6 20 72 (S, xup2 (xup2 G 65 1 0) (ln + 7) x 1, m) = some o := by
    show (if S 72 = (1, 4, 20) then some (xup2 (xup2 G 65 1 0) (ln + 7) x 1 72 6).toNat else none) = _
    rw [if_pos (s72 hs), w7, Int.toNat_natCast]
  unfold c1002_25
  rw [g0, Option.bind_some, g1, Option.bind_some, if_neg (by decide), if_pos (by omega), g2, Option.bind_some, g3, Option.bind_some, e220, Option.bind_some, g4, Option.bind_some, esb, Option.bind_some, g5, Option.bind_some, g6, Option.bind_some, g7, Option.bind_some, esr, Option.bind_some]
theorem st_1002_0 (hs : cSs S) (hp : cPs G) (e : c112 f 65 (S, G, m) = some (S, G', m)) (hp' : cPs G') : c1002 f 64 (S, G, m) = ((c33 f 72 (S, G', m)).bind fun R148 => chd R148 0 (c1002_25 f 64 0 (-1) R148.2) (fun v154 => c1002_25 f 64 1 v154 R148.2)) := by
  unfold c1002
  simp (disch := omega) only [cq_gi, cq_gr, cq_a, cq_s, cq_p, cq_pr, cq_is, cq_ar, cq_ab, cq_ln, xq_nz, Option.bind_some, xup2_n, xup2_s, Int.toNat_natCast, Int.reduceToNat, if_pos, if_neg, true_and, and_true, and_self, eq_self, if_true, reduceIte, not_true_eq_false, not_false_eq_true, or_true, true_or, s64 hs, s65 hs, s72 hs, p64_0 hp, p64_1 hp', e]
/-- what cell() leaves as it was -/
def xFE (A ln : Nat) (G G' : xG_) : Prop := ∀ a j, a < A → ¬ (65 ≤ a ∧ a ≤ 82) → a ≠ ln + 7 → a ≠ ln + 8 → G' a j = G a j
theorem k_1002 (hs : cSs S) (hp : cPs G) (hx : cTx G (tBt tx) tx.length) (hA : 554 < A) (h6 : G 64 6 = (hr : Int)) (hr4 : hr < 4) (hf : 3100 < f) :
    ∃ v S' G' m', c1002 f 64 (S, G, (A, sl)) = some (v, (S', G', m')) ∧ (∀ a, a < A → S' a = S a) ∧ A ≤ m'.1 ∧ m'.1 ≤ A + 3 ∧ m'.2 ≤ sl + 129 ∧ cPs G' ∧ G' 65 1 = 0 ∧ xFE A (243 + 9 * hr) G G' ∧
      pok (qCt tx) (fun w => v = xwr (-1 - (w : Int)) ∧ ∀ c, G' (243 + 9 * hr + 7) c = G (243 + 9 * hr + 7) c ∧ G' (243 + 9 * hr + 8) c = G (243 + 9 * hr + 8) c)
        (fun r => v = r.1 ∧ (0 ≤ r.1 ∧ r.1 < 72) ∧ ∃ o : Nat, (r.2.2 = -1 ∧ o = 0 ∨ r.2.2 ≠ -1 ∧ o = A ∧ A + 2 < m'.1 ∧ cFm S' G' o r.2) ∧ ∀ c, G' (243 + 9 * hr + 7) c = (if c = r.1.toNat then 1 else G (243 + 9 * hr + 7) c) ∧ G' (243 + 9 * hr + 8) c = (if c = r.1.toNat then (o : Int) else G (243 + 9 * hr + 8) c)) := by
  have hB := hx.2.2.1
  have hn := hx.2.1
  obtain ⟨G1, N, b1, b2, b3⟩ := k_112 (m := (A, sl)) hs hp hx hf
  have hp1 : cPs G1 := hp.tape (fun a j y1 y2 => b3 a j (by omega) (by omega))
  have hx1 : cTx G1 (tBt tx) tx.length := hx.ge (b3 _ _ (by omega) (by omega)) (fun p => b3 _ _ (by omega) (by omega))
  have e0 := st_1002_0 hs hp b1 hp1
  have key := k_33 (f := f) (sl := sl) hf hs hp1 hx1 b2 (by omega : 278 < A)
  have frp : ∀ G2 : xG_, (∀ a j, a < A → ¬ (a = 72 ∧ (1 ≤ j ∧ j ≤ 6 ∨ j = 9 ∨ j = 12 ∨ j = 14)) → ¬ (73 ≤ a ∧ a ≤ 82) → a ≠ 67 → G2 a j = G1 a j) → cPs G2 := fun G2 h => hp1.ge (fun a j hz => by
    have hb : a < A ∧ ¬ (a = 72 ∧ (1 ≤ j ∧ j ≤ 6 ∨ j = 9 ∨ j = 12 ∨ j = 14)) ∧ ¬ (73 ≤ a ∧ a ≤ 82) ∧ a ≠ 67 := by
      rcases hz with z | z | z | z | z | z | z | ⟨z, z1, z2, k, z3⟩ | z | z | z | ⟨k, z1, z2, z3⟩ <;> omega
    exact h a j hb.1 hb.2.1 hb.2.2.1 hb.2.2.2)
  cases hX : qCt tx with
  | inl x =>
    rw [hX] at key
    obtain ⟨G2, g1, g2⟩ := key
    obtain ⟨S3, G3, q1, q2, q3⟩ := cWr_ex S G2 (A, sl) (x : Int)
    rw [g1, Option.bind_some, q1] at e0
    have fr : ∀ a j, a < A → ¬ (a = 72 ∧ (1 ≤ j ∧ j ≤ 6 ∨ j = 9 ∨ j = 12 ∨ j = 14)) → ¬ (73 ≤ a ∧ a ≤ 82) → a ≠ 67 → G3 a j = G1 a j := fun a j y1 y2 y3 y4 => by
      rw [q3 a j y1, xup2_n (by omega), g2 a j y2 y3 y4]
    have hs3 : cSs S3 := fun k hk => by rw [q2 _ (by show 64 + k < A; omega)]; exact hs k hk
    have hp3 := frp G3 fr
    have st := st_1002_w (f := f) (m := (A + 1, sl + 6)) (x := (x : Int)) hs3 hp3 (by rw [q3 _ _ (by show 72 < A; omega), xup2_s])
    have e0' : c1002 f 64 (S, G, (A, sl)) = c1002_25 f 64 0 (-1) (S3, G3, (A + 1, sl + 6)) := e0
    refine ⟨_, _, _, _, e0'.trans st, fun a ha => q2 a ha, by show A ≤ A + 1; omega, by show A + 1 ≤ A + 3; omega, by show sl + 6 ≤ sl + 129; omega, hp3.tape (fun a j y1 y2 => xup2_n (by omega)), xup2_s _ _ _ _, fun a j y1 y2 y3 y4 => ?_, rfl, fun c => ⟨?_, ?_⟩⟩
    · rw [xup2_n (by omega), fr _ _ y1 (by omega) (by omega) (by omega), b3 a j (by omega) (by omega)]
    · rw [xup2_n (by omega), fr _ _ (by omega) (by omega) (by omega) (by omega), b3 _ _ (by omega) (by omega)]
    · rw [xup2_n (by omega), fr _ _ (by omega) (by omega) (by omega) (by omega), b3 _ _ (by omega) (by omega)]
  | inr r =>
    rw [hX] at key
    obtain ⟨S2, G2, m2, g1, g2, g3, g4, g5, g6, g7, g8⟩ := key
    rw [g1, Option.bind_some] at e0
    have e0' : c1002 f 64 (S, G, (A, sl)) = c1002_25 f 64 1 r.1 (S2, G2, m2) := e0
    have hs2 : cSs S2 := fun k hk => by rw [g2 _ (by show 64 + k < A; omega)]; exact hs k hk
    have hp2 := frp G2 g3
    obtain ⟨o, o1, o2⟩ : ∃ o : Nat, G2 72 6 = (o : Int) ∧ (r.2.2 = -1 ∧ o = 0 ∨ r.2.2 ≠ -1 ∧ o = A ∧ A + 2 < m2.1 ∧ cFm S2 G2 o r.2) := by
      rcases g8 with ⟨z1, z2⟩ | ⟨z1, z2, z3, z4⟩
      · exact ⟨0, z2, .inl ⟨z1, rfl⟩⟩
      · exact ⟨A, z2, .inr ⟨z1, rfl, by omega, z4⟩⟩
    have er : r.1 = ((r.1.toNat : Nat) : Int) := by omega
    have h62 : G2 64 6 = (hr : Int) := by rw [g3 _ _ (by omega) (by omega) (by omega) (by omega), b3 _ _ (by omega) (by omega)]; exact h6
    have st := st_1002_1 (f := f) (m := m2) (x := r.1.toNat) (o := o) hs2 hp2 (lnSt_of hs2 hr4) (lnPt_of hp2 hr4) (by omega) h62 hr4 (p_ln hp2 hr4) (by omega) o1 (by
      rcases o2 with q | ⟨_, q2, _, q4⟩
      · exact .inl q.2
      · obtain ⟨C, F, ⟨z, _⟩, _⟩ := q4
        exact .inr z)
    rw [← er] at st
    have zz : ∀ a j, ¬ (a = 65 ∧ j = 1) → a ≠ 243 + 9 * hr + 7 → a ≠ 243 + 9 * hr + 8 → xup2 (xup2 (xup2 G2 65 1 0) (243 + 9 * hr + 7) r.1.toNat 1) (243 + 9 * hr + 8) r.1.toNat (o : Int) a j = G2 a j := fun a j y1 y2 y3 => by
      rw [xup2_n (by omega), xup2_n (by omega), xup2_n (by omega)]
    have g12 : ∀ a j, a < A → ¬ (65 ≤ a ∧ a ≤ 82) → G2 a j = G a j := fun a j y1 y2 => by
      rw [g3 _ _ y1 (by omega) (by omega) (by omega), b3 _ _ (by omega) (by omega)]
    refine ⟨_, _, _, _, e0'.trans st, g2, g5, g6, g7, hp2.ge (fun a j hz => zz a j ?_ ?_ ?_), ?_, fun a j y1 y2 y3 y4 => ?_, rfl, g4, o, ?_, fun c => ⟨?_, ?_⟩⟩
    · rcases hz with z | z | z | z | z | z | z | ⟨z, z1, z2, k, z3⟩ | z | z | z | ⟨k, z1, z2, z3⟩ <;> omega
    · rcases hz with z | z | z | z | z | z | z | ⟨z, z1, z2, k, z3⟩ | z | z | z | ⟨k, z1, z2, z3⟩ <;> omega
    · rcases hz with z | z | z | z | z | z | z | ⟨z, z1, z2, k, z3⟩ | z | z | z | ⟨k, z1, z2, z3⟩ <;> omega
    · rw [xup2_n (by omega), xup2_n (by omega), xup2_s]
    · rw [zz _ _ (by omega) y3 y4, g12 _ _ y1 y2]
    · rcases o2 with q | ⟨q1, q2, q3, q4⟩
      · exact .inl q
      · exact .inr ⟨q1, q2, q3, q4.ge (fun _ _ _ => rfl) (fun a j y1 y2 => zz _ _ (by omega) (by omega) (by omega))⟩
    · by_cases cc : c = r.1.toNat
      · rw [if_pos cc, cc, xup2_n (by omega), xup2_s]
      · rw [if_neg cc, xup2_n (by omega), xup2_n (by omega), xup2_n (by omega), g12 _ _ (by omega) (by omega)]
    · by_cases cc : c = r.1.toNat
      · rw [if_pos cc, cc, xup2_s]
      · rw [if_neg cc, xup2_n (by omega), xup2_n (by omega), xup2_n (by omega), g12 _ _ (by omega) (by omega)]
end
