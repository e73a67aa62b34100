/-! THE CLASS: the SHEET: countWorked() -/
theorem eC_inj {x y : Int × Int} (hx : x.1 = 0 ∧ x.2 = 0 ∨ x.1 = 1 ∧ vOk x.2 ∨ x.1 = 2 ∧ 1 ≤ x.2 ∧ x.2 ≤ 4) (hy : y.1 = 0 ∧ y.2 = 0 ∨ y.1 = 1 ∧ vOk y.2 ∨ y.1 = 2 ∧ 1 ≤ y.2 ∧ y.2 ≤ 4) : eC x = eC y ↔ x = y := by
  refine ⟨fun h => ?_, fun h => by rw [h]⟩
  obtain ⟨a, b⟩ := x
  obtain ⟨c, d⟩ := y
  unfold eC at h
  unfold vOk at hx hy
  simp only at hx hy h
  have : a = c ∧ b = d := by
    split at h <;> split at h <;> (try split at h) <;> (try split at h) <;> omega
  rw [this.1, this.2]
section
variable {f mo q ah ac cc ln tp : Nat} {S : Nat → Nat × Nat × Nat} {G G' : xG_} {m : Nat × Nat} {s : pPg} {X : fXs} {to : Nat → Nat} {C D : fCs} {ch : Int}
theorem st_103a {lo hi : Int} {c fu : Nat} (hs : cSs S) (h1 : G 216 1 = (cc : Int)) (hcc : S cc = (2, 4, 72)) (ha : S ah = (1, 2, 8)) (h3 : G ah 3 = (ac : Int)) (hac : S ac = (2, 4, 72)) (hc : c < 72) : c103_9 f (fu + 1) 216 ah ln ch lo hi (c : Int) (S, G, m) = c103_9 f fu 216 ah ln ch (xor8 lo (if G cc c = G ac c then 0 else if c < 64 then xshl8 1 (c : Int) else 0)) (xor8 hi (if G cc c = G ac c then 0 else if c < 64 then 0 else xshl8 1 ((c - 64 : Nat) : Int))) ((c + 1 : Nat) : Int) (S, G, m) := by
  have ec : xwr ((c : Int) + 1) = ((c + 1 : Nat) : Int) := by rw [xwr_g _ (by omega) (by omega)]; omega
  have g1 : cq_gr 7 1 5 216 (S, G, m) = some cc := by
    show (if S 216 = (1, 7, 5) then some (G 216 1).toNat else none) = _
    rw [if_pos (s216 hs), h1, Int.toNat_natCast]
  have g3 : cq_gr 2 3 8 ah (S, G, m) = some ac := by
    show (if S ah = (1, 2, 8) then some (G ah 3).toNat else none) = _
    rw [if_pos ha, h3, Int.toNat_natCast]
  show c103_9b (c103_9 f fu) f 216 _ _ _ _ _ _ _ = _
  unfold c103_9b
  rw [if_neg (by omega), g1, Option.bind_some, ga8 hcc hc, Option.bind_some, g3, Option.bind_some, ga8 hac hc, Option.bind_some]
  by_cases ce : G cc c = G ac c
  · rw [if_pos ce, if_pos ce, if_pos ce]
    unfold c103_39
    rw [if_pos rfl]
    unfold c103_62 c103_63
    rw [if_pos rfl]
    unfold c103_90 c103_91
    rw [ec]
  · rw [if_neg ce, if_neg ce, if_neg ce]
    unfold c103_39
    rw [if_neg (by decide)]
    by_cases h : c < 64
    · rw [if_neg (show ¬ (64 : Int) ≤ (c : Int) by omega), if_pos h, if_pos h]
      unfold c103_63
      rw [if_neg (by decide), if_pos (by omega)]
      unfold c103_90 c103_91
      rw [ec]
    · have e : xwr ((c : Int) - 64) = ((c - 64 : Nat) : Int) := by rw [xwr_g _ (by omega) (by omega)]; omega
      rw [if_pos (show (64 : Int) ≤ (c : Int) by omega), if_neg h, if_neg h]
      unfold c103_62 c103_63
      rw [if_neg (by decide), if_neg (by omega)]
      unfold c103_91
      rw [ec, e]
theorem k_103a (hs : cSs S) (h1 : G 216 1 = (cc : Int)) (hcc : S cc = (2, 4, 72)) (ha : S ah = (1, 2, 8)) (h3 : G ah 3 = (ac : Int)) (hac : S ac = (2, 4, 72)) : ∀ (d c fu : Nat) (lo hi : Int) (Dm : Nat), c + d = 72 → d < fu → rM9 lo hi Dm → (∀ x, Dm.testBit x = true ↔ x < c ∧ G cc x ≠ G ac x) → ∃ lo' hi' Dm', c103_9 f fu 216 ah ln ch lo hi (c : Int) (S, G, m) = c103_103 f f 216 ln ch lo' hi' 0 (S, G, m) ∧ rM9 lo' hi' Dm' ∧ ∀ x, Dm'.testBit x = true ↔ x < 72 ∧ G cc x ≠ G ac x := by
  intro d
  induction d with
  | zero =>
    intro c fu lo hi Dm e1 e2 hm hx
    obtain ⟨fu, rfl⟩ : ∃ t, fu = t + 1 := ⟨fu - 1, by omega⟩
    have : c = 72 := by omega
    refine ⟨lo, hi, Dm, ?_, hm, by rw [this] at hx; exact hx⟩
    show c103_9b (c103_9 f fu) f 216 _ _ _ _ _ _ _ = _
    unfold c103_9b
    rw [if_pos (by omega)]
  | succ d ih =>
    intro c fu lo hi Dm e1 e2 hm hx
    obtain ⟨fu, rfl⟩ : ∃ t, fu = t + 1 := ⟨fu - 1, by omega⟩
    rw [st_103a hs h1 hcc ha h3 hac (by omega)]
    by_cases ce : G cc c = G ac c
    · rw [if_pos ce, if_pos ce]
      have hm' := hm.or rM9.z
      rw [Nat.or_zero] at hm'
      refine ih (c + 1) fu _ _ Dm (by omega) (by omega) hm' (fun x => ?_)
      rw [hx x]
      constructor
      · rintro ⟨q1, q2⟩; exact ⟨by omega, q2⟩
      · rintro ⟨q1, q2⟩
        refine ⟨?_, q2⟩
        by_cases cx : x = c
        · rw [cx] at q2; exact (q2 ce).elim
        · omega
    · rw [if_neg ce, if_neg ce]
      refine ih (c + 1) fu _ _ (Dm ||| 2 ^ c) (by omega) (by omega) (hm.or (rM9_one (by omega))) (fun x => ?_)
      rw [or_bit, Bool.or_eq_true, decide_eq_true_iff, hx x]
      constructor
      · rintro (⟨q1, q2⟩ | q)
        · exact ⟨by omega, q2⟩
        · rw [← q]; exact ⟨by omega, ce⟩
      · rintro ⟨q1, q2⟩
        by_cases cx : x = c
        · exact .inr cx.symm
        · exact .inl ⟨by omega, q2⟩
end
