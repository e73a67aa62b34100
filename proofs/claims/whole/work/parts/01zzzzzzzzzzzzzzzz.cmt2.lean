/-! THE CLASS: merge: meeting() -/
section
variable {f x y z a W cap cap2 cap3 k A0 sl i j : Nat} {S : Nat → Nat × Nat × Nat} {G : xG_} {m : Nat × Nat} {R R2 B A Z : List pRw} {κ : List Int} {own old c : Int} {r11 : Nat → Nat → Nat → Int → Nat → Int → Int → xT_ → Option (Int × xT_)}
theorem st_85b (hf : 700 < f) (h : cRw S G x W cap B) (h2 : cRw S G y W cap2 A) (h3 : cRw S G z W cap3 Z) (sA : A.Pairwise rwLt) (hS : S a = (2, 4, 4)) (hW : W ≤ 4) (hk : k ≤ W) (hx : x + 2 < a) (hy : y + 2 < a) (hz : z + 2 < a) (uB : uK B k) (uA : uK A k) (uZ : uK Z k) (ho : lkR B k κ own) (hol : lkR Z k κ old) (hne : own ≠ -1 ∨ old ≠ -1) (hκ : κ.length = k) : ∃ G1, (∀ b q, b ≠ a → G1 b q = G b q) ∧ ((¬ mtR B A Z k κ ∧ c85_91 r11 f x y z (k : Int) a (i : Int) (j : Int) c own old (S, G, m) = c85_183 r11 f x y z (k : Int) a (i : Int) (j : Int) c (S, G1, m)) ∨ (mtR B A Z k κ ∧ c85_91 r11 f x y z (k : Int) a (i : Int) (j : Int) c own old (S, G, m) = some ((if own = -1 then xwr (2 * old) else xwr (xwr (2 * own) + 1)), (S, G1, m)))) := by
  have rd : ∃ G1, (∀ b q, b ≠ a → G1 b q = G b q) ∧ (∀ q, q < k → G1 a q = κ.getD q 0) ∧ c85_91 r11 f x y z (k : Int) a (i : Int) (j : Int) c own old (S, G, m) = c85_118 r11 f x y z (k : Int) a (i : Int) (j : Int) c own old (S, G1, m) := by
    have tk : ∀ {L : List pRw} {t : Nat} {g : Nat → Int}, (L.getD t dRw).1.take k = κ → (L.getD t dRw).1.length = W → (∀ q, q < W → g q = (L.getD t dRw).1.getD q 0) → ∀ q, q < k → g q = κ.getD q 0 := fun {L t g} e1 e2 e3 q hq => by
      rw [e3 q (by omega), ← e1]
      simp only [List.getD_eq_getElem?_getD]
      rw [List.getElem?_take_of_lt hq]
    unfold c85_91
    rcases ho with ⟨rfl, _⟩ | ⟨t, rfl, t1, t2⟩
    · rcases hol with ⟨e, _⟩ | ⟨t, rfl, t1, t2⟩
      · omega
      · obtain ⟨G1, a1, a2, a3⟩ := k_78 (f := f) (m := m) h3 t1 hS hW (by omega)
        have is : cq_is 5 4 z (S, G, m) = some () := if_pos h3.1
        refine ⟨G1, fun b q hb => a2 b q (by omega), tk t2 (h3.2.2.2.2.2.2.2 t t1).1 a3, ?_⟩
        rw [if_pos rfl, is, Option.bind_some, a1, Option.bind_some]
    · obtain ⟨G1, a1, a2, a3⟩ := k_78 (f := f) (m := m) h t1 hS hW (by omega)
      have is : cq_is 5 4 x (S, G, m) = some () := if_pos h.1
      refine ⟨G1, fun b q hb => a2 b q (by omega), tk t2 (h.2.2.2.2.2.2.2 t t1).1 a3, ?_⟩
      rw [if_neg (by omega), is, Option.bind_some, a1, Option.bind_some]
  obtain ⟨G1, g1, g2, g3⟩ := rd
  have h' : cRw S G1 x W cap B := h.ge (fun _ _ _ => rfl) (fun j => g1 _ _ (by omega)) (fun j => g1 _ _ (by omega)) (fun j => g1 _ _ (by omega))
  have h2' : cRw S G1 y W cap2 A := h2.ge (fun _ _ _ => rfl) (fun j => g1 _ _ (by omega)) (fun j => g1 _ _ (by omega)) (fun j => g1 _ _ (by omega))
  have h3' : cRw S G1 z W cap3 Z := h3.ge (fun _ _ _ => rfl) (fun j => g1 _ _ (by omega)) (fun j => g1 _ _ (by omega)) (fun j => g1 _ _ (by omega))
  refine ⟨G1, g1, ?_⟩
  rw [g3]
  obtain ⟨ot, o1, o2⟩ := k_75 (f := f) (m := m) (a := a) (kl := κ) (by omega) h2' sA (by omega) ⟨⟨4, hS, by omega⟩, fun q hq => g2 q (by omega)⟩
  rw [hκ] at o1 o2
  have lA : lkR A k κ ot := by
    rcases o2 with ⟨e, q⟩ | ⟨lo, e, q1, q2, _⟩
    · exact .inl ⟨e, q⟩
    · exact .inr ⟨lo, e, q1, q2⟩
  obtain ⟨v1, p1, p2⟩ := k_86 (f := f) (m := m) (by omega) h' h3' ho hol uB uZ
  obtain ⟨v2, p3, p4⟩ := k_86 (f := f) (m := m) (by omega) h2' h3' lA hol uA uZ
  obtain ⟨v3, p5, p6⟩ := k_86 (f := f) (m := m) (by omega) h' h2' ho lA uB uA
  have iy : cq_is 5 4 y (S, G1, m) = some () := if_pos h2.1
  have ix : cq_is 5 4 x (S, G1, m) = some () := if_pos h.1
  unfold c85_118
  rw [iy, Option.bind_some, o1, Option.bind_some, ix, Option.bind_some, p1, Option.bind_some]
  rcases p2 with ⟨rfl, q1⟩ | ⟨rfl, q1⟩
  · rw [if_neg (fun z => z rfl)]
    dsimp only
    rw [iy, Option.bind_some, p3, Option.bind_some]
    rcases p4 with ⟨rfl, q2⟩ | ⟨rfl, q2⟩
    · rw [if_neg (fun z => z rfl)]
      dsimp only
      rw [ix, Option.bind_some, p5, Option.bind_some]
      rcases p6 with ⟨rfl, q3⟩ | ⟨rfl, q3⟩
      · rw [if_neg (fun z => z rfl)]
        refine .inr ⟨⟨q1, q2, q3⟩, ?_⟩
        by_cases co : own = -1
        · rw [if_pos co, if_pos co]
          rfl
        · rw [if_neg co, if_neg co]
          rfl
      · rw [if_pos (show ¬ (1 : Int) = 0 by decide)]
        exact .inl ⟨fun z => z.2.2 q3, rfl⟩
    · rw [if_pos (show ¬ (1 : Int) = 0 by decide)]
      exact .inl ⟨fun z => z.2.1 q2, rfl⟩
  · rw [if_pos (show ¬ (1 : Int) = 0 by decide)]
    exact .inl ⟨fun z => z.1 q1, rfl⟩
theorem st_85c (hc : -1 ≤ c ∧ c ≤ 1) (hi : i < 1000) (hj : j < 1000) {T : xT_} : c85_183 r11 f x y z (k : Int) a (i : Int) (j : Int) c T = r11 x y z (k : Int) a (((if 0 < c then i else i + 1) : Nat) : Int) (((if c < 0 then j else j + 1) : Nat) : Int) T := by
  have w3 : xwr (i : Int) = (i : Int) := xwr_g _ (by omega) (by omega)
  have w4 : xwr ((i : Int) + 1) = ((i + 1 : Nat) : Int) := by rw [xwr_g _ (by omega) (by omega)]; omega
  have w5 : xwr (j : Int) = (j : Int) := xwr_g _ (by omega) (by omega)
  have w6 : xwr ((j : Int) + 1) = ((j + 1 : Nat) : Int) := by rw [xwr_g _ (by omega) (by omega)]; omega
  unfold c85_183 c85_195 c85_210
  rw [Int.add_zero, Int.add_zero, w3, w4, w5, w6]
  rcases (by omega : c = -1 ∨ c = 0 ∨ c = 1) with rfl | rfl | rfl
  · simp
  · simp
  · simp
theorem st_85d {T : xT_} : c85_65 r11 f x y z (k : Int) a (i : Int) (j : Int) c T = c85_91 r11 f x y z (k : Int) a (i : Int) (j : Int) c (if 0 < c then -1 else (i : Int)) (if c < 0 then -1 else (j : Int)) T := by
  unfold c85_65 c85_78
  by_cases c1 : 0 < c
  · rw [if_pos c1, if_pos c1, if_neg (by omega), if_neg (by omega)]
  · rw [if_neg c1, if_neg c1]
    by_cases c2 : c < 0
    · rw [if_pos c2, if_pos c2]
    · rw [if_neg c2, if_neg c2]
/-- meeting's loop -/
theorem k_85l (hf : 700 < f) (sB : B.Pairwise rwLt) (sA : A.Pairwise rwLt) (sZ : Z.Pairwise rwLt) (hS : S a = (2, 4, 4)) (hW : W ≤ 4) (hk : k ≤ W) (hx : x + 2 < a) (hy : y + 2 < a) (hz : z + 2 < a) (uB : uK B k) (uA : uK A k) (uZ : uK Z k) : ∀ (n i j fu : Nat) (G : xG_), (B.length - i) + (Z.length - j) ≤ n → n < fu → i ≤ B.length → j ≤ Z.length → cRw S G x W cap B → cRw S G y W cap2 A → cRw S G z W cap3 Z →
    (∀ t, t < i → j < Z.length → vCmp ((B.getD t dRw).1.take k) ((Z.getD j dRw).1.take k) < 0) → (∀ t, t < j → i < B.length → vCmp ((Z.getD t dRw).1.take k) ((B.getD i dRw).1.take k) < 0) →
    (∀ κ', mtR B A Z k κ' → (∃ t, i ≤ t ∧ t < B.length ∧ (B.getD t dRw).1.take k = κ') ∨ (∃ t, j ≤ t ∧ t < Z.length ∧ (Z.getD t dRw).1.take k = κ')) →
    ∃ v G', c85_11 f fu x y z (k : Int) a (i : Int) (j : Int) (S, G, m) = some (v, (S, G', m)) ∧ (∀ b q, b ≠ a → G' b q = G b q) ∧ ((v = -1 ∧ ∀ κ', ¬ mtR B A Z k κ') ∨ ∃ κ, mtR B A Z k κ ∧ (∀ κ', mtR B A Z k κ' → vCmp κ κ' ≤ 0) ∧ ∃ t : Nat, (v = ((2 * t + 1 : Nat) : Int) ∧ t < B.length ∧ (B.getD t dRw).1.take k = κ) ∨ (v = ((2 * t : Nat) : Int) ∧ t < Z.length ∧ (Z.getD t dRw).1.take k = κ)) := by
  intro n
  induction n with
  | zero =>
    intro i j fu G hn hfu hi hj h h2 h3 i1 i2 i3
    obtain ⟨fu, rfl⟩ : ∃ t, fu = t + 1 := ⟨fu - 1, by omega⟩
    refine ⟨-1, G, ?_, fun _ _ _ => rfl, .inl ⟨rfl, fun κ' hm => ?_⟩⟩
    · show c85_11b (c85_11 f fu) f _ _ _ _ _ _ _ _ = _
      unfold c85_11b
      rw [o_gi h.1, Option.bind_some, h.2.2.2.1.2.1, if_neg (by omega), o_gi h3.1, Option.bind_some, h3.2.2.2.1.2.1, if_pos (by omega)]
    · rcases i3 κ' hm with ⟨t, t1, t2, _⟩ | ⟨t, t1, t2, _⟩ <;> omega
  | succ n ih =>
    intro i j fu G hn hfu hi hj h h2 h3 i1 i2 i3
    by_cases c0 : i = B.length ∧ j = Z.length
    · obtain ⟨fu, rfl⟩ : ∃ t, fu = t + 1 := ⟨fu - 1, by omega⟩
      refine ⟨-1, G, ?_, fun _ _ _ => rfl, .inl ⟨rfl, fun κ' hm => ?_⟩⟩
      · show c85_11b (c85_11 f fu) f _ _ _ _ _ _ _ _ = _
        unfold c85_11b
        rw [o_gi h.1, Option.bind_some, h.2.2.2.1.2.1, if_neg (by omega), o_gi h3.1, Option.bind_some, h3.2.2.2.1.2.1, if_pos (by omega)]
      · rcases i3 κ' hm with ⟨t, t1, t2, _⟩ | ⟨t, t1, t2, _⟩ <;> omega
    obtain ⟨fu, rfl⟩ : ∃ t, fu = t + 1 := ⟨fu - 1, by omega⟩
    have lB : ∀ r ∈ B, r.1.length = W := fun r hr => by
      obtain ⟨t, t1, rfl⟩ := mem_get.mp hr
      exact (h.2.2.2.2.2.2.2 t t1).1
    have lZ : ∀ r ∈ Z, r.1.length = W := fun r hr => by
      obtain ⟨t, t1, rfl⟩ := mem_get.mp hr
      exact (h3.2.2.2.2.2.2.2 t t1).1
    have hB5 := h.2.2.2.2.1
    have hB6 := h.2.2.2.2.2.1
    have hZ5 := h3.2.2.2.2.1
    have hZ6 := h3.2.2.2.2.2.1
    have kl : ∀ {L : List pRw} {t : Nat}, (∀ r ∈ L, r.1.length = W) → t < L.length → ((L.getD t dRw).1.take k).length = k := fun {L t} hl ht => by
      rw [List.length_take, hl _ (get_in ht)]; omega
    have ne : ∀ {u v : List Int}, vCmp u v < 0 → u ≠ v := fun {u v} hc e => by rw [e, vCmp_self] at hc; omega
    obtain ⟨c, c1, c2, c3, c4, c5⟩ := st_85 (f := f) (r11 := c85_11 f fu) (m := m) (y := y) (a := a) (i := i) (j := j) h h3 (by omega) hk (by omega)
    have e0 : c85_11 f (fu + 1) x y z (k : Int) a (i : Int) (j : Int) (S, G, m) = _ := c5.trans st_85d
    -- the next KEY
    obtain ⟨κ, hκl, hoB, hoZ, hB', hZ'⟩ : ∃ κ : List Int, κ.length = k ∧ lkR B k κ (if 0 < c then -1 else (i : Int)) ∧ lkR Z k κ (if c < 0 then -1 else (j : Int)) ∧ (∀ t, i ≤ t → t < B.length → vCmp κ ((B.getD t dRw).1.take k) ≤ 0 ∧ (¬ 0 < c ∧ t = i ∨ vCmp κ ((B.getD t dRw).1.take k) < 0)) ∧ (∀ t, j ≤ t → t < Z.length → vCmp κ ((Z.getD t dRw).1.take k) ≤ 0 ∧ (¬ c < 0 ∧ t = j ∨ vCmp κ ((Z.getD t dRw).1.take k) < 0)) := by
      by_cases cp : 0 < c
      · have hj' := c3 (by omega)
        have zt : ∀ t, j ≤ t → t < Z.length → t = j ∨ vCmp ((Z.getD j dRw).1.take k) ((Z.getD t dRw).1.take k) < 0 := fun t t1 t2 => by
          by_cases e : t = j
          · exact .inl e
          · exact .inr (ks_lt sZ lZ uZ (by omega) t2)
        have bt : ∀ t, i ≤ t → t < B.length → vCmp ((Z.getD j dRw).1.take k) ((B.getD t dRw).1.take k) < 0 := fun t t1 t2 => by
          have q := c4 (by omega) hj'
          have q2 : vCmp ((Z.getD j dRw).1.take k) ((B.getD i dRw).1.take k) < 0 := by
            have := vCmp_anti ((B.getD i dRw).1.take k) ((Z.getD j dRw).1.take k)
            omega
          by_cases e : t = i
          · rw [e]; exact q2
          · exact vCmp_tr (by rw [kl lZ hj', kl lB (by omega)]) (by rw [kl lB (by omega), kl lB t2]) q2 (ks_lt sB lB uB (by omega) t2)
        refine ⟨(Z.getD j dRw).1.take k, kl lZ hj', .inl ⟨if_pos cp, fun r hr => ?_⟩, .inr ⟨j, if_neg (by omega), hj', rfl⟩, fun t t1 t2 => ⟨by have := bt t t1 t2; omega, .inr (bt t t1 t2)⟩, fun t t1 t2 => ?_⟩
        · obtain ⟨t, t1, rfl⟩ := mem_get.mp hr
          by_cases e : t < i
          · exact ne (i1 t e hj')
          · exact (ne (bt t (by omega) t1)).symm
        · rcases zt t t1 t2 with e | e
          · rw [e]; exact ⟨by rw [vCmp_self]; omega, .inl ⟨by omega, rfl⟩⟩
          · exact ⟨by omega, .inr e⟩
      · have hi' := c2 (by omega)
        have bt : ∀ t, i ≤ t → t < B.length → t = i ∨ vCmp ((B.getD i dRw).1.take k) ((B.getD t dRw).1.take k) < 0 := fun t t1 t2 => by
          by_cases e : t = i
          · exact .inl e
          · exact .inr (ks_lt sB lB uB (by omega) t2)
        by_cases cn : c < 0
        · have zt : ∀ t, j ≤ t → t < Z.length → vCmp ((B.getD i dRw).1.take k) ((Z.getD t dRw).1.take k) < 0 := fun t t1 t2 => by
            have q := c4 hi' (by omega)
            have q2 : vCmp ((B.getD i dRw).1.take k) ((Z.getD j dRw).1.take k) < 0 := by omega
            by_cases e : t = j
            · rw [e]; exact q2
            · exact vCmp_tr (by rw [kl lB hi', kl lZ (by omega)]) (by rw [kl lZ (by omega), kl lZ t2]) q2 (ks_lt sZ lZ uZ (by omega) t2)
          refine ⟨(B.getD i dRw).1.take k, kl lB hi', .inr ⟨i, if_neg cp, hi', rfl⟩, .inl ⟨if_pos cn, fun r hr => ?_⟩, fun t t1 t2 => ?_, fun t t1 t2 => ⟨by have := zt t t1 t2; omega, .inr (zt t t1 t2)⟩⟩
          · obtain ⟨t, t1, rfl⟩ := mem_get.mp hr
            by_cases e : t < j
            · exact ne (i2 t e hi')
            · exact (ne (zt t (by omega) t1)).symm
          · rcases bt t t1 t2 with e | e
            · rw [e]; exact ⟨by rw [vCmp_self]; omega, .inl ⟨cp, rfl⟩⟩
            · exact ⟨by omega, .inr e⟩
        · have hj' := c3 (by omega)
          have q := c4 hi' hj'
          have eq : (B.getD i dRw).1.take k = (Z.getD j dRw).1.take k := vCmp_eq (by rw [kl lB hi', kl lZ hj']) (by omega)
          refine ⟨(B.getD i dRw).1.take k, kl lB hi', .inr ⟨i, if_neg cp, hi', rfl⟩, .inr ⟨j, if_neg cn, hj', eq.symm⟩, fun t t1 t2 => ?_, fun t t1 t2 => ?_⟩
          · rcases bt t t1 t2 with e | e
            · rw [e]; exact ⟨by rw [vCmp_self]; omega, .inl ⟨cp, rfl⟩⟩
            · exact ⟨by omega, .inr e⟩
          · by_cases e : t = j
            · rw [e, eq]; exact ⟨by rw [vCmp_self]; omega, .inl ⟨cn, rfl⟩⟩
            · have := ks_lt sZ lZ uZ (show j < t by omega) t2
              rw [← eq] at this
              exact ⟨by omega, .inr this⟩
    obtain ⟨G1, g1, g2⟩ := st_85b (r11 := c85_11 f fu) (m := m) (i := i) (j := j) (c := c) hf h h2 h3 sA hS hW hk hx hy hz uB uA uZ hoB hoZ (by
      by_cases cp : 0 < c
      · right; rw [if_neg (by omega)]; omega
      · left; rw [if_neg cp]; omega) hκl
    rcases g2 with ⟨nm, g2⟩ | ⟨im, g2⟩
    · rw [g2, st_85c c1 (by omega) (by omega)] at e0
      have A1 : ∀ t, t < (if 0 < c then i else i + 1) → (if c < 0 then j else j + 1) < Z.length → vCmp ((B.getD t dRw).1.take k) ((Z.getD (if c < 0 then j else j + 1) dRw).1.take k) < 0 := by
        intro t t1 t2
        by_cases cp : 0 < c
        · rw [if_pos cp] at t1
          rw [if_neg (show ¬ c < 0 by omega)] at t2 ⊢
          have hj' := c3 (by omega)
          exact vCmp_tr (by rw [kl lB (by omega), kl lZ hj']) (by rw [kl lZ hj', kl lZ t2]) (i1 t t1 hj') (ks_lt sZ lZ uZ (by omega) t2)
        · rw [if_neg cp] at t1
          have hi' := c2 (by omega)
          by_cases cn : c < 0
          · rw [if_pos cn] at t2 ⊢
            by_cases e : t = i
            · rw [e]
              have := c4 hi' t2
              omega
            · exact i1 t (by omega) t2
          · rw [if_neg cn] at t2 ⊢
            have hj' := c3 (by omega)
            have q := c4 hi' hj'
            have l := ks_lt sZ lZ uZ (show j < j + 1 by omega) t2
            by_cases e : t = i
            · rw [e, vCmp_eq (by rw [kl lB hi', kl lZ hj']) (show vCmp ((B.getD i dRw).1.take k) ((Z.getD j dRw).1.take k) = 0 by omega)]
              exact l
            · exact vCmp_tr (by rw [kl lB (by omega), kl lZ hj']) (by rw [kl lZ hj', kl lZ t2]) (i1 t (by omega) hj') l
      have A2 : ∀ t, t < (if c < 0 then j else j + 1) → (if 0 < c then i else i + 1) < B.length → vCmp ((Z.getD t dRw).1.take k) ((B.getD (if 0 < c then i else i + 1) dRw).1.take k) < 0 := by
        intro t t1 t2
        by_cases cn : c < 0
        · rw [if_pos cn] at t1
          rw [if_neg (show ¬ 0 < c by omega)] at t2 ⊢
          have hi' := c2 (by omega)
          exact vCmp_tr (by rw [kl lZ (by omega), kl lB hi']) (by rw [kl lB hi', kl lB t2]) (i2 t t1 hi') (ks_lt sB lB uB (by omega) t2)
        · rw [if_neg cn] at t1
          have hj' := c3 (by omega)
          by_cases cp : 0 < c
          · rw [if_pos cp] at t2 ⊢
            by_cases e : t = j
            · rw [e]
              have q := c4 t2 hj'
              have := vCmp_anti ((B.getD i dRw).1.take k) ((Z.getD j dRw).1.take k)
              omega
            · exact i2 t (by omega) t2
          · rw [if_neg cp] at t2 ⊢
            have hi' := c2 (by omega)
            have q := c4 hi' hj'
            have l := ks_lt sB lB uB (show i < i + 1 by omega) t2
            by_cases e : t = j
            · rw [e, ← vCmp_eq (by rw [kl lB hi', kl lZ hj']) (show vCmp ((B.getD i dRw).1.take k) ((Z.getD j dRw).1.take k) = 0 by omega)]
              exact l
            · exact vCmp_tr (by rw [kl lZ (by omega), kl lB hi']) (by rw [kl lB hi', kl lB t2]) (i2 t (by omega) hi') l
      have A3 : ∀ κ', mtR B A Z k κ' → (∃ t, (if 0 < c then i else i + 1) ≤ t ∧ t < B.length ∧ (B.getD t dRw).1.take k = κ') ∨ (∃ t, (if c < 0 then j else j + 1) ≤ t ∧ t < Z.length ∧ (Z.getD t dRw).1.take k = κ') := by
        intro κ' hm
        have hne : κ' ≠ κ := fun e => nm (e ▸ hm)
        rcases i3 κ' hm with ⟨t, t1, t2, t3⟩ | ⟨t, t1, t2, t3⟩
        · refine .inl ⟨t, ?_, t2, t3⟩
          by_cases cp : 0 < c
          · rw [if_pos cp]; exact t1
          · rw [if_neg cp]
            by_cases e : t = i
            · exfalso
              rcases hoB with ⟨q, _⟩ | ⟨t', q, _, q2⟩
              · rw [if_neg cp] at q; omega
              · rw [if_neg cp] at q
                have : t' = i := by omega
                rw [this, ← e, t3] at q2
                exact hne q2
            · omega
        · refine .inr ⟨t, ?_, t2, t3⟩
          by_cases cn : c < 0
          · rw [if_pos cn]; exact t1
          · rw [if_neg cn]
            by_cases e : t = j
            · exfalso
              rcases hoZ with ⟨q, _⟩ | ⟨t', q, _, q2⟩
              · rw [if_neg cn] at q; omega
              · rw [if_neg cn] at q
                have : t' = j := by omega
                rw [this, ← e, t3] at q2
                exact hne q2
            · omega
      obtain ⟨v, G', r1, r2, r3⟩ := ih (if 0 < c then i else i + 1) (if c < 0 then j else j + 1) fu G1 (by
        by_cases cp : 0 < c
        · have := c3 (by omega)
          rw [if_pos cp, if_neg (by omega)]; omega
        · have := c2 (by omega)
          rw [if_neg cp]
          by_cases cn : c < 0
          · rw [if_pos cn]; omega
          · rw [if_neg cn]; omega) (by omega) (by
        by_cases cp : 0 < c
        · rw [if_pos cp]; exact hi
        · have := c2 (by omega)
          rw [if_neg cp]; omega) (by
        by_cases cn : c < 0
        · rw [if_pos cn]; exact hj
        · have := c3 (by omega)
          rw [if_neg cn]; omega) (h.ge (fun _ _ _ => rfl) (fun j => g1 _ _ (by omega)) (fun j => g1 _ _ (by omega)) (fun j => g1 _ _ (by omega))) (h2.ge (fun _ _ _ => rfl) (fun j => g1 _ _ (by omega)) (fun j => g1 _ _ (by omega)) (fun j => g1 _ _ (by omega))) (h3.ge (fun _ _ _ => rfl) (fun j => g1 _ _ (by omega)) (fun j => g1 _ _ (by omega)) (fun j => g1 _ _ (by omega))) A1 A2 A3
      exact ⟨v, G', e0.trans r1, fun b q hb => by rw [r2 b q hb, g1 b q hb], r3⟩
    · rw [g2] at e0
      refine ⟨_, G1, e0, g1, .inr ⟨κ, im, fun κ' hm => ?_, ?_⟩⟩
      · rcases i3 κ' hm with ⟨t, t1, t2, t3⟩ | ⟨t, t1, t2, t3⟩
        · rw [← t3]; exact (hB' t t1 t2).1
        · rw [← t3]; exact (hZ' t t1 t2).1
      · by_cases cp : 0 < c
        · have hj' := c3 (by omega)
          rw [if_pos cp, if_pos rfl, if_neg (show ¬ c < 0 by omega)]
          rw [if_neg (show ¬ c < 0 by omega)] at hoZ
          rcases hoZ with ⟨q, _⟩ | ⟨t', q, q1, q2⟩
          · omega
          · refine ⟨t', .inr ⟨?_, q1, q2⟩⟩
            rw [xwr_g _ (by omega) (by omega)]; omega
        · have hi' := c2 (by omega)
          rw [if_neg cp, if_neg (by omega)]
          rw [if_neg cp] at hoB
          rcases hoB with ⟨q, _⟩ | ⟨t', q, q1, q2⟩
          · omega
          · refine ⟨t', .inl ⟨?_, q1, q2⟩⟩
            rw [xwr_g (2 * (i : Int)) (by omega) (by omega), xwr_g _ (by omega) (by omega)]; omega
end
