section
/-! THE CLASS: merge: meeting() -/
section
variable {f x y z a W cap cap2 cap3 k A0 sl i j : Nat} {S : Nat → Nat × Nat × Nat} {G : xG_} {m : Nat × Nat} {R R2 B A Z : List pRw} {κ : List Int} {own old c : Int} {r11 : Nat → Nat → Nat → Int → Nat → Int → Int → xT_ → Option (Int × xT_)}
theorem st_85b (hf : 700 < f) (h : cRw S G x W cap B) (h2 : cRw S G y W cap2 A) (h3 : cRw S G z W cap3 Z) (sA : A.Pairwise rwLt) (hS : S a = (2, 4, 4)) (hW : W ≤ 4) (hk : k ≤ W) (hx : x + 2 < a) (hy : y + 2 < a) (hz : z + 2 < a) (uB : uK B k) (uA : uK A k) (uZ : uK Z k) (ho : lkR B k κ own) (hol : lkR Z k κ old) (hne : own ≠ -1 ∨ old ≠ -1) (hκ : κ.length = k) : ∃ G1, (∀ b q, b ≠ a → G1 b q = G b q) ∧ ((¬ mtR B A Z k κ ∧ c85_91 r11 f x y z (k : Int) a (i : Int) (j : Int) c own old (S, G, m) = c85_183 r11 f x y z (k : Int) a (i : Int) (j : Int) c (S, G1, m)) ∨ (mtR B A Z k κ ∧ c85_91 r11 f x y z (k : Int) a (i : Int) (j : Int) c own old (S, G, m) = some ((if own = -1 then xwr (2 * old) else xwr (xwr (2 * own) + 1)), (S, G1, m)))) := by
  have rd : ∃ G1, (∀ b q, b ≠ a → G1 b q = G b q) ∧ (∀ q, q < k → G1 a q = κ.getD q 0) ∧ c85_91 r11 f x y z (k : Int) a (i : Int) (j : Int) c own old (S, G, m) = c85_118 r11 f x y z (k : Int) a (i : Int) (j : Int) c own old (S, G1, m) := by
    have tk : ∀ {L : List pRw} {t : Nat} {g : Nat → Int}, (L.getD t dRw).1.take k = κ → (L.getD t dRw).1.length = W → (∀ q, q < W → g q = (L.getD t dRw).1.getD q 0) → ∀ q, q < k → g q = κ.getD q 0 := fun {L t g} e1 e2 e3 q hq => by
      rw [e3 q (by omega), ← e1]
      simp only [List.getD_eq_getElem?_getD]
      rw [List.getElem?_take_of_lt hq]
    unfold c85_91
    rcases ho with ⟨rfl, _⟩ | ⟨t, rfl, t1, t2⟩
    · rcases hol with ⟨e, _⟩ | ⟨t, rfl, t1, t2⟩
      · omega
      · obtain ⟨G1, a1, a2, a3⟩ := k_78 (f := f) (m := m) h3 t1 hS hW (by omega)
        have is : cq_is 5 4 z (S, G, m) = some () := if_pos h3.1
        refine ⟨G1, fun b q hb => a2 b q (by omega), tk t2 (h3.2.2.2.2.2.2.2 t t1).1 a3, ?_⟩
        rw [if_pos rfl, is, Option.bind_some, a1, Option.bind_some]
    · obtain ⟨G1, a1, a2, a3⟩ := k_78 (f := f) (m := m) h t1 hS hW (by omega)
      have is : cq_is 5 4 x (S, G, m) = some () := if_pos h.1
      refine ⟨G1, fun b q hb => a2 b q (by omega), tk t2 (h.2.2.2.2.2.2.2 t t1).1 a3, ?_⟩
      rw [if_neg (by omega), is, Option.bind_some, a1, Option.bind_some]
  obtain ⟨G1, g1, g2, g3⟩ := rd
  have h' : cRw S G1 x W cap B := h.ge (fun _ _ _ => rfl) (fun j => g1 _ _ (by omega)) (fun j => g1 _ _ (by omega)) (fun j => g1 _ _ (by omega))
  have h2' : cRw S G1 y W cap2 A := h2.ge (fun _ _ _ => rfl) (fun j => g1 _ _ (by omega)) (fun j => g1 _ _ (by omega)) (fun j => g1 _ _ (by omega))
  have h3' : cRw S G1 z W cap3 Z := h3.ge (fun _ _ _ => rfl) (fun j => g1 _ _ (by omega)) (fun j => g1 _ _ (by omega)) (fun j => g1 _ _ (by omega))
  refine ⟨G1, g1, ?_⟩
  rw [g3]
  obtain ⟨ot, o1, o2⟩ := k_75 (f := f) (m := m) (a := a) (kl := κ) (by omega) h2' sA (by omega) ⟨⟨4, hS, by omega⟩, fun q hq => g2 q (by omega)⟩
  rw [hκ] at o1 o2
  have lA : lkR A k κ ot := by
    rcases o2 with ⟨e, q⟩ | ⟨lo, e, q1, q2, _⟩
    · exact .inl ⟨e, q⟩
    · exact .inr ⟨lo, e, q1, q2⟩
  obtain ⟨v1, p1, p2⟩ := k_86 (f := f) (m := m) (by omega) h' h3' ho hol uB uZ
  obtain ⟨v2, p3, p4⟩ := k_86 (f := f) (m := m) (by omega) h2' h3' lA hol uA uZ
  obtain ⟨v3, p5, p6⟩ := k_86 (f := f) (m := m) (by omega) h' h2' ho lA uB uA
  have iy : cq_is 5 4 y (S, G1, m) = some () := if_pos h2.1
  have ix : cq_is 5 4 x (S, G1, m) = some () := if_pos h.1
  unfold c85_118
  rw [iy, Option.bind_some, o1, Option.bind_some, ix, Option.bind_some, p1, Option.bind_some]
  rcases p2 with ⟨rfl, q1⟩ | ⟨rfl, q1⟩
  · rw [if_neg (fun z => z rfl)]
    dsimp only
    rw [iy, Option.bind_some, p3, Option.bind_some]
    rcases p4 with ⟨rfl, q2⟩ | ⟨rfl, q2⟩
    · rw [if_neg (fun z => z rfl)]
      dsimp only
      rw [ix, Option.bind_some, p5, Option.bind_some]
      rcases p6 with ⟨rfl, q3⟩ | ⟨rfl, q3⟩
      · rw [if_neg (fun z => z rfl)]
        refine .inr ⟨⟨q1, q2, q3⟩, ?_⟩
        by_cases co : own = -1
        · rw [if_pos co, if_pos co]
          rfl
        · rw [if_neg co, if_neg co]
          rfl
      · rw [if_pos (show ¬ (1 : Int) = 0 by decide)]
        exact .inl ⟨fun z => z.2.2 q3, rfl⟩
    · rw [if_pos (show ¬ (1 : Int) = 0 by decide)]
      exact .inl ⟨fun z => z.2.1 q2, rfl⟩
  · rw [if_pos (show ¬ (1 : Int) = 0 by decide)]
    exact .inl ⟨fun z => z.1 q1, rfl⟩
theorem st_85c (hc : -1 ≤ c ∧ c ≤ 1) (hi : i < 1000) (hj : j < 1000) {T : xT_} : c85_183 r11 f x y z (k : Int) a (i : Int) (j : Int) c T = r11 x y z (k : Int) a (((if 0 < c then i else i + 1) : Nat) : Int) (((if c < 0 then j else j + 1) : Nat) : Int) T := by
  have w3 : xwr (i : Int) = (i : Int) := xwr_g _ (by omega) (by omega)
  have w4 : xwr ((i : Int) + 1) = ((i + 1 : Nat) : Int) := by rw [xwr_g _ (by omega) (by omega)]; omega
  have w5 : xwr (j : Int) = (j : Int) := xwr_g _ (by omega) (by omega)
  have w6 : xwr ((j : Int) + 1) = ((j + 1 : Nat) : Int) := by rw [xwr_g _ (by omega) (by omega)]; omega
  unfold c85_183 c85_195 c85_210
  rw [Int.add_zero, Int.add_zero, w3, w4, w5, w6]
  rcases (by omega : c = -1 ∨ c = 0 ∨ c = 1) with rfl | rfl | rfl
  · simp
  · simp
  · simp
theorem st_85d {T : xT_} : c85_65 r11 f x y z (k : Int) a (i : Int) (j : Int) c T = c85_91 r11 f x y z (k : Int) a (i : Int) (j : Int) c (if 0 < c then -1 else (i : Int)) (if c < 0 then -1 else (j : Int)) T := by
  unfold c85_65 c85_78
  by_cases c1 : 0 < c
  · rw [if_pos c1, if_pos c1, if_neg (by omega), if_neg (by omega)]
  · rw [if_neg c1, if_neg c1]
    by_cases c2 : c < 0
    · rw [if_pos c2, if_pos c2]
    · rw [if_neg c2, if_neg c2]
/-- meeting's loop -/
theorem k_85l (hf : 700 < f) (sB : B.Pairwise rwLt) (sA : A.Pairwise rwLt) (sZ : Z.Pairwise rwLt) (hS : S a = (2, 4, 4)) (hW : W ≤ 4) (hk : k ≤ W) (hx : x + 2 < a) (hy : y + 2 < a) (hz : z + 2 < a) (uB : uK B k) (uA : uK A k) (uZ : uK Z k) : ∀ (n i j fu : Nat) (G : xG_), (B.length - i) + (Z.length - j) ≤ n → n < fu → i ≤ B.length → j ≤ Z.length → cRw S G x W cap B → cRw S G y W cap2 A → cRw S G z W cap3 Z →
    (∀ t, t < i → j < Z.length → vCmp ((B.getD t dRw).1.take k) ((Z.getD j dRw).1.take k) < 0) → (∀ t, t < j → i < B.length → vCmp ((Z.getD t dRw).1.take k) ((B.getD i dRw).1.take k) < 0) →
    (∀ κ', mtR B A Z k κ' → (∃ t, i ≤ t ∧ t < B.length ∧ (B.getD t dRw).1.take k = κ') ∨ (∃ t, j ≤ t ∧ t < Z.length ∧ (Z.getD t dRw).1.take k = κ')) →
    ∃ v G', c85_11 f fu x y z (k : Int) a (i : Int) (j : Int) (S, G, m) = some (v, (S, G', m)) ∧ (∀ b q, b ≠ a → G' b q = G b q) ∧ ((v = -1 ∧ ∀ κ', ¬ mtR B A Z k κ') ∨ ∃ κ, mtR B A Z k κ ∧ (∀ κ', mtR B A Z k κ' → vCmp κ κ' ≤ 0) ∧ ∃ t : Nat, (v = ((2 * t + 1 : Nat) : Int) ∧ t < B.length ∧ (B.getD t dRw).1.take k = κ) ∨ (v = ((2 * t : Nat) : Int) ∧ t < Z.length ∧ (Z.getD t dRw).1.take k = κ)) := by
  intro n
  induction n with
  | zero =>
    intro i j fu G hn hfu hi hj h h2 h3 i1 i2 i3
    obtain ⟨fu, rfl⟩ : ∃ t, fu = t + 1 := ⟨fu - 1, by omega⟩
    refine ⟨-1, G, ?_, fun _ _ _ => rfl, .inl ⟨rfl, fun κ' hm => ?_⟩⟩
    · show c85_11b (c85_11 f fu) f _ _ _ _ _ _ _ _ = _
      unfold c85_11b
      rw [o_gi h.1, Option.bind_some, h.2.2.2.1.2.1, if_neg (by omega), o_gi h3.1, Option.bind_some, h3.2.2.2.1.2.1, if_pos (by omega)]
    · rcases i3 κ' hm with ⟨t, t1, t2, _⟩ | ⟨t, t1, t2, _⟩ <;> omega
  | succ n ih =>
    intro i j fu G hn hfu hi hj h h2 h3 i1 i2 i3
    by_cases c0 : i = B.length ∧ j = Z.length
    · obtain ⟨fu, rfl⟩ : ∃ t, fu = t + 1 := ⟨fu - 1, by omega⟩
      refine ⟨-1, G, ?_, fun _ _ _ => rfl, .inl ⟨rfl, fun κ' hm => ?_⟩⟩
      · show c85_11b (c85_11 f fu) f _ _ _ _ _ _ _ _ = _
        unfold c85_11b
        rw [o_gi h.1, Option.bind_some, h.2.2.2.1.2.1, if_neg (by omega), o_gi h3.1, Option.bind_some, h3.2.2.2.1.2.1, if_pos (by omega)]
      · rcases i3 κ' hm with ⟨t, t1, t2, _⟩ | ⟨t, t1, t2, _⟩ <;> omega
    obtain ⟨fu, rfl⟩ : ∃ t, fu = t + 1 := ⟨fu - 1, by omega⟩
    have lB : ∀ r ∈ B, r.1.length = W := fun r hr => by
      obtain ⟨t, t1, rfl⟩ := mem_get.mp hr
      exact (h.2.2.2.2.2.2.2 t t1).1
    have lZ : ∀ r ∈ Z, r.1.length = W := fun r hr => by
      obtain ⟨t, t1, rfl⟩ := mem_get.mp hr
      exact (h3.2.2.2.2.2.2.2 t t1).1
    have hB5 := h.2.2.2.2.1
    have hB6 := h.2.2.2.2.2.1
    have hZ5 := h3.2.2.2.2.1
    have hZ6 := h3.2.2.2.2.2.1
    have kl : ∀ {L : List pRw} {t : Nat}, (∀ r ∈ L, r.1.length = W) → t < L.length → ((L.getD t dRw).1.take k).length = k := fun {L t} hl ht => by
      rw [List.length_take, hl _ (get_in ht)]; omega
    have ne : ∀ {u v : List Int}, vCmp u v < 0 → u ≠ v := fun {u v} hc e => by rw [e, vCmp_self] at hc; omega
    obtain ⟨c, c1, c2, c3, c4, c5⟩ := st_85 (f := f) (r11 := c85_11 f fu) (m := m) (y := y) (a := a) (i := i) (j := j) h h3 (by omega) hk (by omega)
    have e0 : c85_11 f (fu + 1) x y z (k : Int) a (i : Int) (j : Int) (S, G, m) = _ := c5.trans st_85d
    -- the next KEY
    obtain ⟨κ, hκl, hoB, hoZ, hB', hZ'⟩ : ∃ κ : List Int, κ.length = k ∧ lkR B k κ (if 0 < c then -1 else (i : Int)) ∧ lkR Z k κ (if c < 0 then -1 else (j : Int)) ∧ (∀ t, i ≤ t → t < B.length → vCmp κ ((B.getD t dRw).1.take k) ≤ 0 ∧ (¬ 0 < c ∧ t = i ∨ vCmp κ ((B.getD t dRw).1.take k) < 0)) ∧ (∀ t, j ≤ t → t < Z.length → vCmp κ ((Z.getD t dRw).1.take k) ≤ 0 ∧ (¬ c < 0 ∧ t = j ∨ vCmp κ ((Z.getD t dRw).1.take k) < 0)) := by
      by_cases cp : 0 < c
      · have hj' := c3 (by omega)
        have zt : ∀ t, j ≤ t → t < Z.length → t = j ∨ vCmp ((Z.getD j dRw).1.take k) ((Z.getD t dRw).1.take k) < 0 := fun t t1 t2 => by
          by_cases e : t = j
          · exact .inl e
          · exact .inr (ks_lt sZ lZ uZ (by omega) t2)
        have bt : ∀ t, i ≤ t → t < B.length → vCmp ((Z.getD j dRw).1.take k) ((B.getD t dRw).1.take k) < 0 := fun t t1 t2 => by
          have q := c4 (by omega) hj'
          have q2 : vCmp ((Z.getD j dRw).1.take k) ((B.getD i dRw).1.take k) < 0 := by
            have := vCmp_anti ((B.getD i dRw).1.take k) ((Z.getD j dRw).1.take k)
            omega
          by_cases e : t = i
          · rw [e]; exact q2
          · exact vCmp_tr (by rw [kl lZ hj', kl lB (by omega)]) (by rw [kl lB (by omega), kl lB t2]) q2 (ks_lt sB lB uB (by omega) t2)
        refine ⟨(Z.getD j dRw).1.take k, kl lZ hj', .inl ⟨if_pos cp, fun r hr => ?_⟩, .inr ⟨j, if_neg (by omega), hj', rfl⟩, fun t t1 t2 => ⟨by have := bt t t1 t2; omega, .inr (bt t t1 t2)⟩, fun t t1 t2 => ?_⟩
        · obtain ⟨t, t1, rfl⟩ := mem_get.mp hr
          by_cases e : t < i
          · exact ne (i1 t e hj')
          · exact (ne (bt t (by omega) t1)).symm
        · rcases zt t t1 t2 with e | e
          · rw [e]; exact ⟨by rw [vCmp_self]; omega, .inl ⟨by omega, rfl⟩⟩
          · exact ⟨by omega, .inr e⟩
      · have hi' := c2 (by omega)
        have bt : ∀ t, i ≤ t → t < B.length → t = i ∨ vCmp ((B.getD i dRw).1.take k) ((B.getD t dRw).1.take k) < 0 := fun t t1 t2 => by
          by_cases e : t = i
          · exact .inl e
          · exact .inr (ks_lt sB lB uB (by omega) t2)
        by_cases cn : c < 0
        · have zt : ∀ t, j ≤ t → t < Z.length → vCmp ((B.getD i dRw).1.take k) ((Z.getD t dRw).1.take k) < 0 := fun t t1 t2 => by
            have q := c4 hi' (by omega)
            have q2 : vCmp ((B.getD i dRw).1.take k) ((Z.getD j dRw).1.take k) < 0 := by omega
            by_cases e : t = j
            · rw [e]; exact q2
            · exact vCmp_tr (by rw [kl lB hi', kl lZ (by omega)]) (by rw [kl lZ (by omega), kl lZ t2]) q2 (ks_lt sZ lZ uZ (by omega) t2)
          refine ⟨(B.getD i dRw).1.take k, kl lB hi', .inr ⟨i, if_neg cp, hi', rfl⟩, .inl ⟨if_pos cn, fun r hr => ?_⟩, fun t t1 t2 => ?_, fun t t1 t2 => ⟨by have := zt t t1 t2; omega, .inr (zt t t1 t2)⟩⟩
          · obtain ⟨t, t1, rfl⟩ := mem_get.mp hr
            by_cases e : t < j
            · exact ne (i2 t e hi')
            · exact (ne (zt t (by omega) t1)).symm
          · rcases bt t t1 t2 with e | e
            · rw [e]; exact ⟨by rw [vCmp_self]; omega, .inl ⟨cp, rfl⟩⟩
            · exact ⟨by omega, .inr e⟩
        · have hj' := c3 (by omega)
          have q := c4 hi' hj'
          have eq : (B.getD i dRw).1.take k = (Z.getD j dRw).1.take k := vCmp_eq (by rw [kl lB hi', kl lZ hj']) (by omega)
          refine ⟨(B.getD i dRw).1.take k, kl lB hi', .inr ⟨i, if_neg cp, hi', rfl⟩, .inr ⟨j, if_neg cn, hj', eq.symm⟩, fun t t1 t2 => ?_, fun t t1 t2 => ?_⟩
          · rcases bt t t1 t2 with e | e
            · rw [e]; exact ⟨by rw [vCmp_self]; omega, .inl ⟨cp, rfl⟩⟩
            · exact ⟨by omega, .inr e⟩
          · by_cases e : t = j
            · rw [e, eq]; exact ⟨by rw [vCmp_self]; omega, .inl ⟨cn, rfl⟩⟩
            · have := ks_lt sZ lZ uZ (show j < t by omega) t2
              rw [← eq] at this
              exact ⟨by omega, .inr this⟩
    obtain ⟨G1, g1, g2⟩ := st_85b (r11 := c85_11 f fu) (m := m) (i := i) (j := j) (c := c) hf h h2 h3 sA hS hW hk hx hy hz uB uA uZ hoB hoZ (by
      by_cases cp : 0 < c
      · right; rw [if_neg (by omega)]; omega
      · left; rw [if_neg cp]; omega) hκl
    rcases g2 with ⟨nm, g2⟩ | ⟨im, g2⟩
    · rw [g2, st_85c c1 (by omega) (by omega)] at e0
      have A1 : ∀ t, t < (if 0 < c then i else i + 1) → (if c < 0 then j else j + 1) < Z.length → vCmp ((B.getD t dRw).1.take k) ((Z.getD (if c < 0 then j else j + 1) dRw).1.take k) < 0 := by
        intro t t1 t2
        by_cases cp : 0 < c
        · rw [if_pos cp] at t1
          rw [if_neg (show ¬ c < 0 by omega)] at t2 ⊢
          have hj' := c3 (by omega)
          exact vCmp_tr (by rw [kl lB (by omega), kl lZ hj']) (by rw [kl lZ hj', kl lZ t2]) (i1 t t1 hj') (ks_lt sZ lZ uZ (by omega) t2)
        · rw [if_neg cp] at t1
          have hi' := c2 (by omega)
          by_cases cn : c < 0
          · rw [if_pos cn] at t2 ⊢
            by_cases e : t = i
            · rw [e]
              have := c4 hi' t2
              omega
            · exact i1 t (by omega) t2
          · rw [if_neg cn] at t2 ⊢
            have hj' := c3 (by omega)
            have q := c4 hi' hj'
            have l := ks_lt sZ lZ uZ (show j < j + 1 by omega) t2
            by_cases e : t = i
            · rw [e, vCmp_eq (by rw [kl lB hi', kl lZ hj']) (show vCmp ((B.getD i dRw).1.take k) ((Z.getD j dRw).1.take k) = 0 by omega)]
              exact l
            · exact vCmp_tr (by rw [kl lB (by omega), kl lZ hj']) (by rw [kl lZ hj', kl lZ t2]) (i1 t (by omega) hj') l
      have A2 : ∀ t, t < (if c < 0 then j else j + 1) → (if 0 < c then i else i + 1) < B.length → vCmp ((Z.getD t dRw).1.take k) ((B.getD (if 0 < c then i else i + 1) dRw).1.take k) < 0 := by
        intro t t1 t2
        by_cases cn : c < 0
        · rw [if_pos cn] at t1
          rw [if_neg (show ¬ 0 < c by omega)] at t2 ⊢
          have hi' := c2 (by omega)
          exact vCmp_tr (by rw [kl lZ (by omega), kl lB hi']) (by rw [kl lB hi', kl lB t2]) (i2 t t1 hi') (ks_lt sB lB uB (by omega) t2)
        · rw [if_neg cn] at t1
          have hj' := c3 (by omega)
          by_cases cp : 0 < c
          · rw [if_pos cp] at t2 ⊢
            by_cases e : t = j
            · rw [e]
              have q := c4 t2 hj'
              have := vCmp_anti ((B.getD i dRw).1.take k) ((Z.getD j dRw).1.take k)
              omega
            · exact i2 t (by omega) t2
          · rw [if_neg cp] at t2 ⊢
            have hi' := c2 (by omega)
            have q := c4 hi' hj'
            have l := ks_lt sB lB uB (show i < i + 1 by omega) t2
            by_cases e : t = j
            · rw [e, ← vCmp_eq (by rw [kl lB hi', kl lZ hj']) (show vCmp ((B.getD i dRw).1.take k) ((Z.getD j dRw).1.take k) = 0 by omega)]
              exact l
            · exact vCmp_tr (by rw [kl lZ (by omega), kl lB hi']) (by rw [kl lB hi', kl lB t2]) (i2 t (by omega) hi') l
      have A3 : ∀ κ', mtR B A Z k κ' → (∃ t, (if 0 < c then i else i + 1) ≤ t ∧ t < B.length ∧ (B.getD t dRw).1.take k = κ') ∨ (∃ t, (if c < 0 then j else j + 1) ≤ t ∧ t < Z.length ∧ (Z.getD t dRw).1.take k = κ') := by
        intro κ' hm
        have hne : κ' ≠ κ := fun e => nm (e ▸ hm)
        rcases i3 κ' hm with ⟨t, t1, t2, t3⟩ | ⟨t, t1, t2, t3⟩
        · refine .inl ⟨t, ?_, t2, t3⟩
          by_cases cp : 0 < c
          · rw [if_pos cp]; exact t1
          · rw [if_neg cp]
            by_cases e : t = i
            · exfalso
              rcases hoB with ⟨q, _⟩ | ⟨t', q, _, q2⟩
              · rw [if_neg cp] at q; omega
              · rw [if_neg cp] at q
                have : t' = i := by omega
                rw [this, ← e, t3] at q2
                exact hne q2
            · omega
        · refine .inr ⟨t, ?_, t2, t3⟩
          by_cases cn : c < 0
          · rw [if_pos cn]; exact t1
          · rw [if_neg cn]
            by_cases e : t = j
            · exfalso
              rcases hoZ with ⟨q, _⟩ | ⟨t', q, _, q2⟩
              · rw [if_neg cn] at q; omega
              · rw [if_neg cn] at q
                have : t' = j := by omega
                rw [this, ← e, t3] at q2
                exact hne q2
            · omega
      obtain ⟨v, G', r1, r2, r3⟩ := ih (if 0 < c then i else i + 1) (if c < 0 then j else j + 1) fu G1 (by
        by_cases cp : 0 < c
        · have := c3 (by omega)
          rw [if_pos cp, if_neg (by omega)]; omega
        · have := c2 (by omega)
          rw [if_neg cp]
          by_cases cn : c < 0
          · rw [if_pos cn]; omega
          · rw [if_neg cn]; omega) (by omega) (by
        by_cases cp : 0 < c
        · rw [if_pos cp]; exact hi
        · have := c2 (by omega)
          rw [if_neg cp]; omega) (by
        by_cases cn : c < 0
        · rw [if_pos cn]; exact hj
        · have := c3 (by omega)
          rw [if_neg cn]; omega) (h.ge (fun _ _ _ => rfl) (fun j => g1 _ _ (by omega)) (fun j => g1 _ _ (by omega)) (fun j => g1 _ _ (by omega))) (h2.ge (fun _ _ _ => rfl) (fun j => g1 _ _ (by omega)) (fun j => g1 _ _ (by omega)) (fun j => g1 _ _ (by omega))) (h3.ge (fun _ _ _ => rfl) (fun j => g1 _ _ (by omega)) (fun j => g1 _ _ (by omega)) (fun j => g1 _ _ (by omega))) A1 A2 A3
      exact ⟨v, G', e0.trans r1, fun b q hb => by rw [r2 b q hb, g1 b q hb], r3⟩
    · rw [g2] at e0
      refine ⟨_, G1, e0, g1, .inr ⟨κ, im, fun κ' hm => ?_, ?_⟩⟩
      · rcases i3 κ' hm with ⟨t, t1, t2, t3⟩ | ⟨t, t1, t2, t3⟩
        · rw [← t3]; exact (hB' t t1 t2).1
        · rw [← t3]; exact (hZ' t t1 t2).1
      · by_cases cp : 0 < c
        · have hj' := c3 (by omega)
          rw [if_pos cp, if_pos rfl, if_neg (show ¬ c < 0 by omega)]
          rw [if_neg (show ¬ c < 0 by omega)] at hoZ
          rcases hoZ with ⟨q, _⟩ | ⟨t', q, q1, q2⟩
          · omega
          · refine ⟨t', .inr ⟨?_, q1, q2⟩⟩
            rw [xwr_g _ (by omega) (by omega)]; omega
        · have hi' := c2 (by omega)
          rw [if_neg cp, if_neg (by omega)]
          rw [if_neg cp] at hoB
          rcases hoB with ⟨q, _⟩ | ⟨t', q, q1, q2⟩
          · omega
          · refine ⟨t', .inl ⟨?_, q1, q2⟩⟩
            rw [xwr_g (2 * (i : Int)) (by omega) (by omega), xwr_g _ (by omega) (by omega)]; omega
end
end
section
/-! THE CLASS: merge: meet() -/
section
variable {f x y z W cap cap2 cap3 k A0 sl q ma mb mz ra rb rz nq : Nat} {S : Nat → Nat × Nat × Nat} {G : xG_} {m : Nat × Nat} {B A Z : List pRw} {s : pPg} {xa ca xb cb xz cz : Nat → Nat} {Ma Mb Mz : Nat → List pRw} {FA FB FZ : List pFc}
theorem k_85 (hf : 1100 < f) (sB : B.Pairwise rwLt) (sA : A.Pairwise rwLt) (sZ : Z.Pairwise rwLt) (hW : W ≤ 4) (hk : k ≤ W) (hx : x + 2 < A0) (hy : y + 2 < A0) (hz : z + 2 < A0) (uB : uK B k) (uA : uK A k) (uZ : uK Z k) (h : cRw S G x W cap B) (h2 : cRw S G y W cap2 A) (h3 : cRw S G z W cap3 Z) : ∃ v S' G', c85 f x y z (k : Int) (S, G, (A0, sl)) = some (v, (S', G', (A0 + 1, sl + 4))) ∧ (∀ b, b < A0 → S' b = S b) ∧ (∀ b j, b < A0 → G' b j = G b j) ∧ ((v = -1 ∧ ∀ κ', ¬ mtR B A Z k κ') ∨ ∃ κ, mtR B A Z k κ ∧ κ.length = k ∧ (∀ κ', mtR B A Z k κ' → vCmp κ κ' ≤ 0) ∧ ∃ t : Nat, (v = ((2 * t + 1 : Nat) : Int) ∧ t < B.length ∧ (B.getD t dRw).1.take k = κ) ∨ (v = ((2 * t : Nat) : Int) ∧ t < Z.length ∧ (Z.getD t dRw).1.take k = κ)) := by
  obtain ⟨S1, hS1⟩ : ∃ S1, S1 = xup1 S A0 (2, 4, 4) := ⟨_, rfl⟩
  obtain ⟨G1, hG1⟩ : ∃ G1, G1 = xz1 G A0 (fun _ => 0) := ⟨_, rfl⟩
  have sL : ∀ b, b < A0 → S1 b = S b := fun b hb => by rw [hS1, xup1_n (by omega)]
  have gL : ∀ b j, b < A0 → G1 b j = G b j := fun b j hb => by rw [hG1, xz1_n _ (by omega)]
  have en : cq_na 4 4 (S, G, (A0, sl)) = some (A0, (S1, G1, (A0 + 1, sl + 4))) := by
    rw [cq_na_ok (by decide) (by decide) (by decide), hS1, hG1]
    rfl
  have b1 := h.2.2.2.2.1
  have b2 := h.2.2.2.2.2.1
  have b3 := h3.2.2.2.2.1
  have b4 := h3.2.2.2.2.2.1
  have up : ∀ {x cap : Nat} {R : List pRw}, x + 2 < A0 → cRw S G x W cap R → cRw S1 G1 x W cap R := fun {x cap R} hx h => h.ge (fun b _ _ => sL b (by omega)) (fun j => gL _ _ (by omega)) (fun j => gL _ _ (by omega)) (fun j => gL _ _ (by omega))
  obtain ⟨v, G2, r1, r2, r3⟩ := k_85l (f := f) (m := (A0 + 1, sl + 4)) (S := S1) (a := A0) (x := x) (y := y) (z := z) (B := B) (A := A) (Z := Z) (k := k) (cap := cap) (cap2 := cap2) (cap3 := cap3) (by omega) sB sA sZ (by rw [hS1, xup1_s]) hW hk hx hy hz uB uA uZ (B.length + Z.length) 0 0 f G1 (by omega) (by omega) (Nat.zero_le _) (Nat.zero_le _) (up hx h) (up hy h2) (up hz h3) (fun t ht => absurd ht (Nat.not_lt_zero _)) (fun t ht => absurd ht (Nat.not_lt_zero _)) (fun κ' hm => by
    have h1 : ¬ ∀ v : List Int, v.take k = κ' → (inV B v ↔ inV Z v) := hm.1
    by_cases c1 : ∃ t, t < B.length ∧ (B.getD t dRw).1.take k = κ'
    · obtain ⟨t, t1, t2⟩ := c1
      exact .inl ⟨t, Nat.zero_le _, t1, t2⟩
    · by_cases c2 : ∃ t, t < Z.length ∧ (Z.getD t dRw).1.take k = κ'
      · obtain ⟨t, t1, t2⟩ := c2
        exact .inr ⟨t, Nat.zero_le _, t1, t2⟩
      · refine absurd (fun v hv => ⟨fun ⟨r, q1, q2⟩ => ?_, fun ⟨r, q1, q2⟩ => ?_⟩) h1
        · obtain ⟨t, t1, rfl⟩ := mem_get.mp q1
          exact absurd ⟨t, t1, by rw [q2]; exact hv⟩ c1
        · obtain ⟨t, t1, rfl⟩ := mem_get.mp q1
          exact absurd ⟨t, t1, by rw [q2]; exact hv⟩ c2)
  refine ⟨v, S1, G2, ?_, sL, fun b j hb => by rw [r2 b j (by omega), gL b j hb], ?_⟩
  · unfold c85
    rw [en, Option.bind_some]
    exact r1
  · rcases r3 with q | ⟨κ, q1, q2, q3⟩
    · exact .inl q
    · refine .inr ⟨κ, q1, ?_, q2, q3⟩
      obtain ⟨t, ⟨_, t1, t2⟩ | ⟨_, t1, t2⟩⟩ := q3
      · have := (h.2.2.2.2.2.2.2 t t1).1
        rw [← t2, List.length_take]; omega
      · have := (h3.2.2.2.2.2.2.2 t t1).1
        rw [← t2, List.length_take]; omega
theorem k_190l (hf : 1100 < f) (hs : cSs S) (hp : cPs G) (hA : 555 < A0) (hP : cPgm S G q nq s) (hqA : q + 10 < A0) (hok : qOc s) (h1 : cMr S G A0 ma q ra s xa ca Ma) (h2 : cMr S G A0 mb q rb s xb cb Mb) (h3 : cMr S G A0 mz q rz s xz cz Mz) (hm : ma < A0 ∧ mb < A0 ∧ mz < A0 ∧ ra < A0 ∧ rb < A0 ∧ rz < A0) (hxz : ∀ p, p < s.1.length → (xz p + 2 < 216 ∨ 555 < xz p) ∧ (xb p + 2 < 216 ∨ 555 < xb p)) (oa : okM8 s Ma) (ob : okM8 s Mb) (oz : okM8 s Mz) (hkl : ∀ p, p < s.1.length → 0 < qKy s p → qKy s p ≤ qN s p ∧ uK (Ma p) (qKy s p) ∧ uK (Mb p) (qKy s p) ∧ uK (Mz p) (qKy s p)) :
    ∀ (d p fu : Nat) (S1 : Nat → Nat × Nat × Nat) (G1 : xG_) (A1 sl1 : Nat), p + d = s.1.length → d < fu → A0 ≤ A1 → (∀ a, a < A0 → S1 a = S a) → (∀ a j, a < A0 → G1 a j = G a j) → (∀ p', p' < p → 0 < qKy s p' → ∀ κ, ¬ mtR (Mb p') (Ma p') (Mz p') (qKy s p') κ) →
      ∃ v S' G' A' sl', c190_9 f fu 64 ma mb mz q (p : Int) (S1, G1, (A1, sl1)) = some (v, (S', G', (A', sl'))) ∧ A1 ≤ A' ∧ A' ≤ A1 + d ∧ sl1 ≤ sl' ∧ sl' ≤ sl1 + 4 * d ∧ (∀ a, a < A0 → S' a = S a) ∧ ((v = 0 ∧ (∀ a j, a < A0 → G' a j = G a j) ∧ ∀ p', p' < s.1.length → 0 < qKy s p' → ∀ κ, ¬ mtR (Mb p') (Ma p') (Mz p') (qKy s p') κ) ∨ (v = 1 ∧ ∃ (t : Nat) (κ : List Int), t < s.1.length ∧ 0 < qKy s t ∧ mtR (Mb t) (Ma t) (Mz t) (qKy s t) κ ∧ κ.length = qKy s t ∧ (∀ κ', mtR (Mb t) (Ma t) (Mz t) (qKy s t) κ' → vCmp κ κ' ≤ 0) ∧ (∀ p', p' < t → 0 < qKy s p' → ∀ κ, ¬ mtR (Mb p') (Ma p') (Mz p') (qKy s p') κ) ∧ G' 64 15 = (t : Int) ∧ G' 64 16 = (κ.length : Int) ∧ (∀ j, j < κ.length → G' 227 j = κ.getD j 0) ∧ ∀ a j, a < A0 → ¬ (a = 64 ∧ (j = 15 ∨ j = 16)) → a ≠ 227 → G' a j = G a j)) := by
  have h16 : s.1.length ≤ 16 := hP.2.2.1.2.1
  intro d
  induction d with
  | zero =>
    intro p fu S1 G1 A1 sl1 e1 e2 e3 e4 e5 e6
    obtain ⟨fu, rfl⟩ : ∃ t, fu = t + 1 := ⟨fu - 1, by omega⟩
    refine ⟨0, S1, G1, A1, sl1, ?_, Nat.le_refl _, Nat.le_refl _, Nat.le_refl _, Nat.le_refl _, e4, .inl ⟨rfl, e5, fun p' hp' => e6 p' (by omega)⟩⟩
    show c190_9b (c190_9 f fu) f _ _ _ _ _ _ _ = _
    unfold c190_9b
    rw [o_gi (by rw [e4 _ (by omega)]; exact hP.1.1), Option.bind_some, e5 _ _ (by omega), hP.2.2.1.1, if_pos (by omega)]
  | succ d ih =>
    intro p fu S1 G1 A1 sl1 e1 e2 e3 e4 e5 e6
    obtain ⟨fu, rfl⟩ : ∃ t, fu = t + 1 := ⟨fu - 1, by omega⟩
    have hp' : p < s.1.length := by omega
    have gk : G1 (q + 3) p = pKy s.2.1 (p : Int) := by rw [e5 _ _ (by omega), (hP.2.2.2.2.1 p (by omega)).1, pKl_e hok.2.2.2.2.2.1]
    have w1 : xwr ((p : Int) + 1) = ((p + 1 : Nat) : Int) := by rw [xwr_g _ (by omega) (by omega)]; omega
    have e0 := Eq.refl (c190_9 f (fu + 1) 64 ma mb mz q (p : Int) (S1, G1, (A1, sl1)))
    conv at e0 => { rhs; change c190_9b (c190_9 f fu) f 64 ma mb mz q (p : Int) (S1, G1, (A1, sl1)); unfold c190_9b }
    rw [o_gi (by rw [e4 _ (by omega)]; exact hP.1.1), Option.bind_some, e5 _ _ (by omega), hP.2.2.1.1, if_neg (by omega), o_gr (x := q) (y := q + 3) (by rw [e4 _ (by omega)]; exact hP.1.1) (by rw [e5 _ _ (by omega)]; exact hP.2.1.2.2.1), Option.bind_some, o_a (x := q + 3) (L := 16) (by rw [e4 _ (by omega)]; exact hP.1.2.2.2.1) (by omega), Option.bind_some, gk] at e0
    by_cases ck : pKy s.2.1 (p : Int) ≤ 0
    · rw [if_pos ck] at e0
      unfold c190_64 at e0
      rw [if_pos rfl, w1] at e0
      obtain ⟨v, S', G', A', sl', r1, r2, r3, r4, r5, r6, r7⟩ := ih (p + 1) fu S1 G1 A1 sl1 (by omega) (by omega) e3 e4 e5 (fun p' hp' hk => by
        by_cases e : p' = p
        · subst e
          unfold qKy at hk
          omega
        · exact e6 p' (by omega) hk)
      exact ⟨v, S', G', A', sl', e0.trans r1, r2, by omega, r4, by omega, r6, r7⟩
    · have hkk : pKy s.2.1 (p : Int) = ((qKy s p : Nat) : Int) := by unfold qKy; omega
      have hk0 : 0 < qKy s p := by omega
      obtain ⟨k1, k2, k3, k4⟩ := hkl p hp' hk0
      obtain ⟨a1, a2, a3⟩ := h1.2.2.2.2 p hp'
      obtain ⟨b1, b2, b3⟩ := h2.2.2.2.2 p hp'
      obtain ⟨z1, z2, z3⟩ := h3.2.2.2.2 p hp'
      have up : ∀ {x cap W : Nat} {R : List pRw}, x + 2 < A0 → cRw S G x W cap R → cRw S1 G1 x W cap R := fun {x cap W R} hx h => h.ge (fun b _ _ => e4 b (by omega)) (fun j => e5 _ _ (by omega)) (fun j => e5 _ _ (by omega)) (fun j => e5 _ _ (by omega))
      have hw4 := (qN_pos hok hp').2
      obtain ⟨v, S2, G2, r1, r2, r3, r4⟩ := k_85 (f := f) (sl := sl1) hf (ob p hp').1 (oa p hp').1 (oz p hp').1 hw4 k1 (show xb p + 2 < A1 by omega) (show xa p + 2 < A1 by omega) (show xz p + 2 < A1 by omega) k3 k2 k4 (up b2.2 b3) (up a2.2 a3) (up z2.2 z3)
      have is : cq_is 5 4 (xb p) (S1, G1, (A1, sl1)) = some () := if_pos (up b2.2 b3).1
      rw [if_neg ck, hkk, o_gr (x := mb) (y := rb) (by rw [e4 _ (by omega)]; exact h2.1) (by rw [e5 _ _ (by omega)]; exact h2.2.2.1), Option.bind_some, o_ar (x := rb) (y := xb p) (L := s.1.length) (by rw [e4 _ (by omega)]; exact h2.2.2.2.1) (by decide) hp' (by rw [e5 _ _ (by omega)]; exact b1), Option.bind_some, o_gr (x := ma) (y := ra) (by rw [e4 _ (by omega)]; exact h1.1) (by rw [e5 _ _ (by omega)]; exact h1.2.2.1), Option.bind_some, o_ar (x := ra) (y := xa p) (L := s.1.length) (by rw [e4 _ (by omega)]; exact h1.2.2.2.1) (by decide) hp' (by rw [e5 _ _ (by omega)]; exact a1), Option.bind_some, o_gr (x := mz) (y := rz) (by rw [e4 _ (by omega)]; exact h3.1) (by rw [e5 _ _ (by omega)]; exact h3.2.2.1), Option.bind_some, o_ar (x := rz) (y := xz p) (L := s.1.length) (by rw [e4 _ (by omega)]; exact h3.2.2.2.1) (by decide) hp' (by rw [e5 _ _ (by omega)]; exact z1), Option.bind_some, is, Option.bind_some, r1, Option.bind_some] at e0
      have s2 : ∀ a, a < A0 → S2 a = S a := fun a ha => by rw [r2 a (by omega), e4 a ha]
      have g2 : ∀ a j, a < A0 → G2 a j = G a j := fun a j ha => by rw [r3 a j (by omega), e5 a j ha]
      unfold c190_64 at e0
      rcases r4 with ⟨rfl, nm⟩ | ⟨κ, m1, m2, m3, m4⟩
      · rw [if_pos rfl, w1] at e0
        obtain ⟨v, S', G', A', sl', q1, q2, q3, q4, q5, q6, q7⟩ := ih (p + 1) fu S2 G2 (A1 + 1) (sl1 + 4) (by omega) (by omega) (by omega) s2 g2 (fun p' hp' hk => by
          by_cases e : p' = p
          · subst e; exact nm
          · exact e6 p' (by omega) hk)
        exact ⟨v, S', G', A', sl', e0.trans q1, by omega, by omega, by omega, by omega, q6, q7⟩
      · -- a KEY that meets
        have tell : ∀ (x t cap : Nat) (R : List pRw), x + 2 < A0 → (x + 2 < 216 ∨ 555 < x) → t < R.length → R.length ≤ 100 → cRw S2 G2 x (qN s p) cap R → (R.getD t dRw).1.take (qKy s p) = κ → ∃ G3, c190_97 f 64 (p : Int) ((qKy s p : Nat) : Int) (((2 * t + 1 : Nat) : Int)) x (S2, G2, (A1 + 1, sl1 + 4)) = some (1, (S2, G3, (A1 + 1, sl1 + 4))) ∧ c190_97 f 64 (p : Int) ((qKy s p : Nat) : Int) (((2 * t : Nat) : Int)) x (S2, G2, (A1 + 1, sl1 + 4)) = some (1, (S2, G3, (A1 + 1, sl1 + 4))) ∧ G3 64 15 = (p : Int) ∧ G3 64 16 = (κ.length : Int) ∧ (∀ j, j < κ.length → G3 227 j = κ.getD j 0) ∧ ∀ a j, a < A0 → ¬ (a = 64 ∧ (j = 15 ∨ j = 16)) → a ≠ 227 → G3 a j = G a j := fun x t cap R hx hx2 ht h100 hR hκ => by
          obtain ⟨t1, t2, t3, t4⟩ := ec_xa (k := t) (by omega)
          have hs2 : cSs S2 := fun k hk => by rw [s2 _ (by omega)]; exact hs k hk
          have hlr := (hR.2.2.2.2.2.2.2 t ht).1
          obtain ⟨G3, u1, u2, u3⟩ := k_78 (f := f) (m := (A1 + 1, sl1 + 4)) hR ht (s227 hs2) hw4 (by omega : 227 ≠ x + 1)
          have i1 : cq_is 5 4 x (S2, G2, (A1 + 1, sl1 + 4)) = some () := if_pos hR.1
          have g14 : G2 64 14 = ((227 : Nat) : Int) := by rw [g2 _ _ (by omega)]; exact p64_14 hp
          have run : ∀ w : Int, xshr w 1 = (t : Int) → c190_97 f 64 (p : Int) ((qKy s p : Nat) : Int) w x (S2, G2, (A1 + 1, sl1 + 4)) = some (1, (S2, xup2 (xup2 G3 64 15 (p : Int)) 64 16 ((qKy s p : Nat) : Int), (A1 + 1, sl1 + 4))) := fun w hw => by
            unfold c190_97
            rw [o_gr (y := 227) (s64 hs2) g14, Option.bind_some, i1, Option.bind_some, hw, u1, Option.bind_some, o_p (s64 hs2), Option.bind_some, o_p (s64 hs2), Option.bind_some]
          refine ⟨_, run _ t3, run _ t4, by rw [xup2_n (by omega), xup2_s], by rw [xup2_s, m2], fun j hj => ?_, fun a j y1 y2 y3 => ?_⟩
          · rw [xup2_n (by omega), xup2_n (by omega), u3 j (by omega), ← hκ]
            simp only [List.getD_eq_getElem?_getD]
            rw [List.getElem?_take_of_lt (by omega)]
          · rw [xup2_n (by omega), xup2_n (by omega), u2 a j (by omega), g2 a j y1]
        have bz : (Mz p).length ≤ 100 := (oz p hp').2.1
        have bb : (Mb p).length ≤ 100 := (ob p hp').2.1
        have up2 : ∀ {x cap W : Nat} {R : List pRw}, x + 2 < A0 → cRw S G x W cap R → cRw S2 G2 x W cap R := fun {x cap W R} hx h => h.ge (fun b _ _ => s2 b (by omega)) (fun j => g2 _ _ (by omega)) (fun j => g2 _ _ (by omega)) (fun j => g2 _ _ (by omega))
        obtain ⟨t, ⟨rfl, t1, t2⟩ | ⟨rfl, t1, t2⟩⟩ := m4
        · obtain ⟨x1, x2, x3, x4⟩ := ec_xa (k := t) (by omega)
          obtain ⟨G3, u1, _, u3, u4, u5, u6⟩ := tell (xb p) t (cb p) (Mb p) b2.2 (hxz p hp').2 t1 bb (up2 b2.2 b3) t2
          rw [if_neg (by omega), if_neg (fun z => z x1), o_gr (x := mb) (y := rb) (by rw [s2 _ (by omega)]; exact h2.1) (by rw [g2 _ _ (by omega)]; exact h2.2.2.1), Option.bind_some, o_ar (x := rb) (y := xb p) (L := s.1.length) (by rw [s2 _ (by omega)]; exact h2.2.2.2.1) (by decide) hp' (by rw [g2 _ _ (by omega)]; exact b1), Option.bind_some, u1] at e0
          exact ⟨1, S2, G3, A1 + 1, sl1 + 4, e0, by omega, by omega, by omega, by omega, s2, .inr ⟨rfl, p, κ, hp', hk0, m1, m2, m3, e6, u3, u4, u5, u6⟩⟩
        · obtain ⟨x1, x2, x3, x4⟩ := ec_xa (k := t) (by omega)
          obtain ⟨G3, _, u1, u3, u4, u5, u6⟩ := tell (xz p) t (cz p) (Mz p) z2.2 (hxz p hp').1 t1 bz (up2 z2.2 z3) t2
          rw [if_neg (by omega), if_pos (by rw [x2]; decide), o_gr (x := mz) (y := rz) (by rw [s2 _ (by omega)]; exact h3.1) (by rw [g2 _ _ (by omega)]; exact h3.2.2.1), Option.bind_some, o_ar (x := rz) (y := xz p) (L := s.1.length) (by rw [s2 _ (by omega)]; exact h3.2.2.2.1) (by decide) hp' (by rw [g2 _ _ (by omega)]; exact z1), Option.bind_some, u1] at e0
          exact ⟨1, S2, G3, A1 + 1, sl1 + 4, e0, by omega, by omega, by omega, by omega, s2, .inr ⟨rfl, p, κ, hp', hk0, m1, m2, m3, e6, u3, u4, u5, u6⟩⟩
/-- rows and facts -/
theorem eq_rf (hok : qOk s) {p : Nat} {κ : List Int} (hp : p < s.1.length) (fA : qFa s Ma FA) (fB : qFa s Mb FB) : eqF FA FB (qNm s p) k κ ↔ eqR (Ma p) (Mb p) k κ := by
  unfold eqF eqR
  constructor
  · intro h v hv
    rw [← inV_h, ← inV_h, ← fn_iff hok fA hp, ← fn_iff hok fB hp]
    exact h v hv
  · intro h v hv
    rw [fn_iff hok fA hp, fn_iff hok fB hp, inV_h, inV_h]
    exact h v hv
theorem mt_rf (hok : qOk s) {p : Nat} {κ : List Int} (hp : p < s.1.length) (fA : qFa s Ma FA) (fB : qFa s Mb FB) (fZ : qFa s Mz FZ) : mtF FA FB FZ (qNm s p) k κ ↔ mtR (Mb p) (Ma p) (Mz p) k κ := by
  unfold mtF mtR
  rw [eq_rf hok hp fA fZ, eq_rf hok hp fB fZ, eq_rf hok hp fA fB]
  have sy : eqR (Ma p) (Mb p) k κ ↔ eqR (Mb p) (Ma p) k κ := ⟨fun h v hv => (h v hv).symm, fun h v hv => (h v hv).symm⟩
  rw [sy]
  exact ⟨fun ⟨a, b, c⟩ => ⟨b, a, c⟩, fun ⟨a, b, c⟩ => ⟨b, a, c⟩⟩
theorem uk_of (hok : qOk s) {p : Nat} (hp : p < s.1.length) (fA : qFa s Ma FA) (h : wKf FA (qNm s p) (qKy s p) (qN s p)) : uK (Ma p) (qKy s p) := fun r hr r' hr' e => h.2.2 r.1 r'.1 ((fn_iff hok fA hp).mpr (hasV_t.mpr ⟨r, hr, rfl⟩)) ((fn_iff hok fA hp).mpr (hasV_t.mpr ⟨r', hr', rfl⟩)) e
end
end
