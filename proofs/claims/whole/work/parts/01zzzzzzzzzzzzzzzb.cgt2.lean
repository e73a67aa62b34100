/-! THE CLASS: small questions, further -/
theorem fa_len {s : pPg} {M : Nat → List pRw} {F : List pFc} (hok : qOk s) (hM : qTb s M) (hF : qFa s M F) : F.length = qTo M s.1.length := by
  have h := lg_new (s := s) (so := s) (R := M) (Mo := fun _ => []) (A := fun _ => []) (F := F) (Fo := []) hok hok hM (fun p hp => ⟨Nat.zero_le _, List.Pairwise.nil, fun w hw => by cases hw⟩) hF ⟨List.Pairwise.nil, fun y => ⟨fun z => absurd z List.not_mem_nil, fun ⟨p, _, _, w, z, _⟩ => absurd z List.not_mem_nil⟩⟩ (fun p hp => .inl ⟨p, hp, rfl, rfl, rfl⟩)
  rw [List.filter_eq_self.mpr (fun y _ => by rfl)] at h
  rw [h]
  have : ∀ k, qTo (fun p => (M p).filter (fun w => ! hasV [] w.1)) k = qTo M k := by
    intro k
    induction k with
    | zero => rfl
    | succ k ih =>
      show qTo _ k + ((M k).filter _).length = qTo M k + (M k).length
      rw [ih, List.filter_eq_self.mpr (fun y _ => by rfl)]
  exact this _
section
variable {f A q mp rp nx nq hr n sl : Nat} {S : Nat → Nat × Nat × Nat} {G : xG_} {m : Nat × Nat} {s : pPg} {xr cr : Nat → Nat} {M M' : Nat → List pRw} {T : List (List Int)} {P : Nat → Nat} {mo : sMo} {lns : Nat → sLn} {tx : List Int} {kp : Nat × List (List Int)} {mt : Int × List Int} {pl rf : Int}
theorem k_16l (h16 : s.1.length ≤ 16) (hl : ∀ p, p < s.1.length → (M p).length ≤ 100) (hM : cMr S G nx mp q rp s xr cr M) (hP : cPgm S G q nq s) : ∀ (d p fu : Nat), p + d = s.1.length → d < fu → c16_4 f fu mp (qTo M p : Int) (p : Int) (S, G, m) = some ((qTo M s.1.length : Int), (S, G, m)) := by
  obtain ⟨h1, h2, h3, h4, h5⟩ := hM
  intro d
  induction d with
  | zero =>
    intro p fu e1 e2
    obtain ⟨fu, rfl⟩ : ∃ t, fu = t + 1 := ⟨fu - 1, by omega⟩
    have e : p = s.1.length := by omega
    subst e
    show c16_4b (c16_4 f fu) f _ _ _ _ = _
    unfold c16_4b
    rw [o_gr h1 h2, Option.bind_some, o_gi hP.1.1, Option.bind_some, hP.2.2.1.1, if_pos (Int.le_refl _)]
  | succ d ih =>
    intro p fu e1 e2
    obtain ⟨fu, rfl⟩ : ∃ t, fu = t + 1 := ⟨fu - 1, by omega⟩
    have hp : p < s.1.length := by omega
    obtain ⟨b1, b2, b3⟩ := h5 p hp
    have t1 := qTo_le (R := M) p (fun x hx => hl x (by omega))
    have t2 := hl p hp
    show c16_4b (c16_4 f fu) f _ _ _ _ = _
    unfold c16_4b
    rw [o_gr h1 h2, Option.bind_some, o_gi hP.1.1, Option.bind_some, hP.2.2.1.1, if_neg (by omega), o_gr h1 h3, Option.bind_some, o_ar h4 (by decide) hp b1, Option.bind_some, o_gi b3.1, Option.bind_some, b3.2.2.2.1.2.1, xwr_g _ (by omega) (by omega), xwr_g _ (by omega) (by omega)]
    have e3 : (qTo M p : Int) + ((M p).length : Int) = (qTo M (p + 1) : Int) := by
      show _ = ((qTo M p + (M p).length : Nat) : Int)
      omega
    rw [e3]
    exact ih (p + 1) fu (by omega) (by omega)
/-- count() -/
theorem k_174 {w v : Int} (hf : 20 < f) (h : cHs S G A (T, lns, hr, tx, kp, mt, pl, rf) n) (hb : (lns hr).2.1.1 + (lns hr).2.1.2.1 < 520) (hst : stCo T (lns hr) hr tx.length rf w v) : c174 f 64 w (S, G, m) = some (v, (S, G, m)) := by
  obtain ⟨P, mp, b1, b2, b3, b4, b5, b6, b7, b8, b9, b10⟩ := hs_ln h hb
  obtain ⟨⟨a1, a2, a3, a4⟩, _, _, _, a5, a6, a7, _⟩ := h
  obtain ⟨s, M, i1, i2⟩ := hst
  obtain ⟨rp, xr, cr, nq, r1, r2, r3, r4, r5, r6⟩ := b2.pm b1 i1
  have i3 : cq_is 1 14 (243 + 9 * hr) (S, G, m) = some () := if_pos b4.1
  have i4 : cq_is 2 8 mp (S, G, m) = some () := if_pos r1.1
  have g6 : cq_gi 11 6 17 64 (S, G, m) = some (hr : Int) := by rw [o_gi (s64 a1), b9]
  obtain ⟨⟨⟨l1, l2⟩, _⟩, _, _, ⟨_, _, l5⟩, _⟩ := b3
  have h16 : s.1.length ≤ 16 := r2.2.2.1.2.1
  have e16 : c16 f mp (S, G, m) = some (((lMo (lns hr)).2.1.length : Int), (S, G, m)) := by
    have := k_16l (f := f) (m := m) h16 (fun p hp => (r5 p hp).2.1) r1 r2 s.1.length 0 f (by omega) (by omega)
    rw [fa_len r4.1 i1.2.2.2.2.1.1.1 i1.2.2.2.2.2.1]
    exact this
  rw [i2]
  unfold c174
  rw [o_gr (y := 220) (s64 a1) (p64_5 a2), Option.bind_some, g6, Option.bind_some, o_ar (s220 a1) (by decide) b8 b6, Option.bind_some, i3, Option.bind_some, b7, Option.bind_some]
  by_cases c : w < 0 ∨ 9 < w
  · rw [if_pos c, if_neg (by omega), if_neg (by omega), if_neg (by omega), if_neg (by omega), if_neg (by omega), if_neg (by omega), if_neg (by omega), if_neg (by omega), if_neg (by omega), if_neg (by omega)]
  · rw [if_neg c]
    rcases (by omega : w = 0 ∨ w = 1 ∨ w = 2 ∨ w = 3 ∨ w = 4 ∨ w = 5 ∨ w = 6 ∨ w = 7 ∨ w = 8 ∨ w = 9) with rfl | rfl | rfl | rfl | rfl | rfl | rfl | rfl | rfl | rfl
    · simp only [Int.reduceEq, reduceIte]
      rw [o_gi b4.1, Option.bind_some, l1]
    · simp only [Int.reduceEq, reduceIte]
      rw [o_gi b4.1, Option.bind_some, l2]
    · simp only [Int.reduceEq, reduceIte]
      rw [o_gr r1.1 r1.2.1, Option.bind_some, o_gi r2.1.1, Option.bind_some, r2.2.2.1.1]
    · simp only [Int.reduceEq, reduceIte]
      rw [o_gr r1.1 r1.2.1, Option.bind_some, o_gi r2.1.1, Option.bind_some, r2.2.2.2.2.2.1.1]
    · simp only [Int.reduceEq, reduceIte]
      rw [o_gi b4.1, Option.bind_some, l5.1]
    · simp only [Int.reduceEq, reduceIte]
      rw [g6, Option.bind_some]
    · simp only [Int.reduceEq, reduceIte]
      rw [i4, Option.bind_some, e16, Option.bind_some]
    · simp only [Int.reduceEq, reduceIte]
      rw [o_gi r1.1, Option.bind_some, b10]
    · simp only [Int.reduceEq, reduceIte]
      rw [o_gi (s64 a1), Option.bind_some, a5]
    · simp only [Int.reduceEq, reduceIte]
      rw [o_gr (y := 65) (s64 a1) (p64_0 a2), Option.bind_some, o_gi (s65 a1), Option.bind_some, a7.1]
/-- place() -/
theorem k_171 (h : cHs S G A (T, lns, hr, tx, kp, mt, pl, rf) n) : c171 f 64 (S, G, m) = some (pl, (S, G, m)) := by
  obtain ⟨⟨a1, a2, a3, a4⟩, _, _, _, a5, a6, a7, _⟩ := h
  unfold c171
  rw [o_gi (s64 a1), Option.bind_some, a6]
/-- met() -/
theorem k_191 {w v t : Int} (h : cHs S G A (T, lns, hr, tx, kp, mt, pl, rf) n) (hst : stMe mt w t v) : (t = 0 ∧ c191 f 64 w (S, G, m) = some (.inr v, (S, G, m))) ∨ (t = 1 ∧ c191 f 64 w (S, G, m) = some (.inl 1, cq_ex (S, G, m))) := by
  obtain ⟨⟨a1, a2, a3, a4⟩, _, _, _, _, _, _, _, ⟨m1, m2, m3, m4⟩⟩ := h
  have h20 : c191_20 f (S, G, m) = some (.inl 1, cq_ex (S, G, m)) := rfl
  have h48 : ∀ v, c191_48 f v (S, G, m) = some (.inr v, (S, G, m)) := fun v => rfl
  have g15 : cq_gi 11 15 17 64 (S, G, m) = some mt.1 := by rw [o_gi (s64 a1), m1]
  have bad : ¬ (mt.1 ≠ -1 ∧ 0 ≤ w ∧ w ≤ mt.2.length) → c191 f 64 w (S, G, m) = some (.inl 1, cq_ex (S, G, m)) → (t = 0 ∧ c191 f 64 w (S, G, m) = some (.inr v, (S, G, m))) ∨ (t = 1 ∧ c191 f 64 w (S, G, m) = some (.inl 1, cq_ex (S, G, m))) := fun hn he => by
    rcases hst with ⟨z, _⟩ | ⟨_, z, _⟩
    · exact absurd z hn
    · exact .inr ⟨z, he⟩
  by_cases c1 : mt.1 = -1
  · refine bad (fun z => z.1 c1) ?_
    unfold c191
    rw [g15, Option.bind_some, if_pos c1, h20]
  · by_cases c2 : w < 0
    · refine bad (fun z => by have := z.2.1; omega) ?_
      unfold c191
      rw [g15, Option.bind_some, if_neg c1, if_pos c2, h20]
    · by_cases c3 : w ≤ (mt.2.length : Int)
      · rcases hst with ⟨z, rfl, rfl⟩ | ⟨z, _⟩
        · refine .inl ⟨rfl, ?_⟩
          unfold c191
          rw [g15, Option.bind_some, if_neg c1, if_neg c2, o_gi (s64 a1), Option.bind_some, m2, if_pos c3]
          by_cases c4 : w = 0
          · rw [if_neg (fun z => z c4), Option.bind_some, h48, if_pos c4]
          · obtain ⟨x, rfl⟩ : ∃ x : Nat, w = ((x + 1 : Nat) : Int) := ⟨(w - 1).toNat, by omega⟩
            have e : xwr (((x + 1 : Nat) : Int) - 1) = (x : Int) := by rw [xwr_g _ (by omega) (by omega)]; omega
            have e2 : (((x + 1 : Nat) : Int) - 1).toNat = x := by omega
            rw [if_pos c4, o_gr (y := 227) (s64 a1) (p64_14 a2), Option.bind_some, e, o_a (s227 a1) (by omega), Option.bind_some, h48, m4 x (by omega), if_neg c4, e2]
        · exact absurd ⟨c1, by omega, c3⟩ z
      · refine bad (fun z => c3 z.2.2) ?_
        unfold c191
        rw [g15, Option.bind_some, if_neg c1, if_neg c2, o_gi (s64 a1), Option.bind_some, m2, if_neg c3, h20]
end
