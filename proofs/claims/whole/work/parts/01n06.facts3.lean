section
/-! The reference's facts: one less, all copied -/
section
variable {f b : Nat}
theorem l_199_70 {N : Nat} (hf : 10 < f) (hN : N < 3400) : ∀ (d k fu : Nat) (G : xG_), k + d = N → d < fu → G b 3 = (N : Int) → ∃ G', g199_70 f fu b (k : Int) G = some G' ∧ (∀ j, k ≤ j → j < N → fRw b G (j + 1) G' j) ∧ (∀ j, j < k → fRw b G j G' j) ∧ ∀ a j, a ≠ b + 1 → a ≠ b + 2 → a ≠ b + 3 → G' a j = G a j := by
  intro d
  induction d with
  | zero =>
    intro k fu G h1 h2 h3
    obtain ⟨fu, rfl⟩ : ∃ t, fu = t + 1 := ⟨fu - 1, by omega⟩
    refine ⟨G, ?_, fun j _ _ => by omega, fun j _ => .rf _ _ _, fun _ _ _ _ _ => rfl⟩
    show g199_70b (g199_70 f fu) f _ _ _ = _
    unfold g199_70b
    rw [h3, if_pos (by omega)]
  | succ d ih =>
    intro k fu G h1 h2 h3
    obtain ⟨fu, rfl⟩ : ∃ t, fu = t + 1 := ⟨fu - 1, by omega⟩
    obtain ⟨G1, q1, q2, q3, q4⟩ := l_200 (f := f) (b := b) (x := k + 1) (y := k) hf (by omega) (by omega) (by omega) G
    obtain ⟨G', k1, k2, k3, k4⟩ := ih (k + 1) fu G1 (by omega) (by omega) (by rw [q4 _ _ (by omega) (by omega) (by omega)]; exact h3)
    have e1 : xwr ((k : Int) + 1) = ((k + 1 : Nat) : Int) := by rw [xwr_g _ (by omega) (by omega)]; omega
    refine ⟨G', ?_, fun j h1 h2 => ?_, fun j h => (q3 j (by omega)).tr (k3 j (by omega)), fun a j h1 h2 h3 => by rw [k4 a j h1 h2 h3, q4 a j h1 h2 h3]⟩
    · show g199_70b (g199_70 f fu) f _ _ _ = _
      unfold g199_70b
      rw [h3, if_neg (by omega), e1, q1, Option.bind_some]
      exact k1
    · by_cases cj : j = k
      · rw [cj]
        exact q2.tr (k3 k (by omega))
      · exact (q3 (j + 1) (by omega)).tr (k2 j (by omega) h2)
/-- remove -/
theorem l_199 {c i : Nat} {G : xG_} {F : List pFc} {x : pFc} (hf : 3500 < f) (hb : isFb b) (h : rFa G b F) (hs : F.Pairwise fLt) (hx : rVe G c i x.2) :
    ∃ G' F', g199 f b x.1 (x.2.length : Int) c (i : Int) G = some G' ∧ rFa G' b F' ∧ F'.Pairwise fLt ∧ (∀ y, y ∈ F' ↔ y ∈ F ∧ y ≠ x) ∧ xfy b G G' := by
  obtain ⟨k, e1, e2⟩ := l_196 hf hb h hs hx
  have hm := e2.mem hs
  have hk := e2.1
  have hl := h.2.1
  by_cases c0 : x ∈ F
  · obtain ⟨c1, c2⟩ := hm.mp c0
    obtain ⟨q1, q2, q3, q4⟩ := h.2.2 _ c1
    have e4 : xwr (4 * (k : Int)) = ((4 * k : Nat) : Int) := by rw [xwr_g _ (by omega) (by omega)]; omega
    obtain ⟨G1, a1, a2, a3, a4⟩ := l_199_70 (f := f) (b := b) (N := F.length - 1) (by omega) (by omega) (F.length - 1 - k) k f (xup2 G b 3 ((F.length - 1 : Nat) : Int)) (by omega) (by omega) (xup2_s _ _ _ _)
    have r0 : ∀ j, fRw b G j (xup2 G b 3 ((F.length - 1 : Nat) : Int)) j := fun j => ⟨xup2_n (by omega), xup2_n (by omega), fun z _ => xup2_n (by omega)⟩
    refine ⟨G1, F.take k ++ F.drop (k + 1), ?_, ⟨by rw [len_del c1, a4 _ _ (by omega) (by omega) (by omega), xup2_s], by rw [len_del c1]; omega, fun j hj => ?_⟩, srt_del hs k, fun y => by rw [srt_del_mem fLt_irr (d := dFc) hs c1, c2], fun a j h1 h2 h3 h4 => by rw [a4 a j h2 h3 h4, xup2_n h1]⟩
    · unfold g199
      rw [e1, Option.bind_some]
      show (if (k : Int) = G b 3 then _ else _) = _
      rw [h.1, if_neg (by omega), if_pos (by omega), if_pos (by omega)]
      show Option.bind (g195 f (G (b + 1) ((k : Int)).toNat) (G (b + 3) ((k : Int)).toNat) (b + 2) (xwr (4 * (k : Int))) _ _ _ _ G) _ = _
      rw [Int.toNat_natCast, q1, q2, e4, l_195 (by omega) (h.ve hb c1) hx, Option.bind_some]
      have c3 : (fCmp ((F.getD k dFc).1, (F.getD k dFc).2) (x.1, x.2), G).1 = 0 := by rw [c2]; exact fCmp_self x
      have e5 : xwr ((F.length : Int) - 1) = ((F.length - 1 : Nat) : Int) := by rw [xwr_g _ (by omega) (by omega)]; omega
      rw [if_pos c3]
      show Option.bind (some (xup2 G b 3 (xwr (G b 3 - 1)))) _ = _
      rw [h.1, e5, Option.bind_some]
      exact a1
    · rw [len_del c1] at hj
      rw [getD_del c1]
      by_cases j1 : j < k
      · rw [if_pos j1]
        exact h.at (by omega) ((r0 j).tr (a3 j j1))
      · rw [if_neg j1]
        exact h.at (by omega) ((r0 (j + 1)).tr (a2 j (by omega) hj))
  · refine ⟨G, F, ?_, h, hs, fun y => ⟨fun q => ⟨q, fun z => c0 (z ▸ q)⟩, fun q => q.1⟩, fun _ _ _ _ _ _ => rfl⟩
    unfold g199
    rw [e1, Option.bind_some]
    show (if (k : Int) = G b 3 then _ else _) = _
    rw [h.1]
    by_cases c1 : k < F.length
    · obtain ⟨q1, q2, q3, q4⟩ := h.2.2 _ c1
      have e4 : xwr (4 * (k : Int)) = ((4 * k : Nat) : Int) := by rw [xwr_g _ (by omega) (by omega)]; omega
      rw [if_neg (by omega), if_pos (by omega), if_pos (by omega)]
      show Option.bind (g195 f (G (b + 1) ((k : Int)).toNat) (G (b + 3) ((k : Int)).toNat) (b + 2) (xwr (4 * (k : Int))) _ _ _ _ G) _ = _
      rw [Int.toNat_natCast, q1, q2, e4, l_195 (by omega) (h.ve hb c1) hx, Option.bind_some]
      have c3 : ¬ (fCmp ((F.getD k dFc).1, (F.getD k dFc).2) (x.1, x.2), G).1 = 0 := fun q => c0 (hm.mpr ⟨c1, fCmp_eq q⟩)
      rw [if_neg c3]
      rfl
    · rw [if_pos (by omega)]
      rfl
variable {b1 : Nat}
theorem l_194_44 {r10 : Nat → Nat → Int → xG_ → Option xG_} {i : Nat} (hi : i < 3400) (hne : b1 ≠ b) : ∀ (d k fu : Nat) (G : xG_), k + d = 4 → d < fu → ∃ G', g194_44 r10 f fu b b1 (i : Int) (k : Int) G = r10 b b1 ((i + 1 : Nat) : Int) G' ∧ (∀ j, k ≤ j → j < 4 → G' (b + 2) (4 * i + j) = G (b1 + 2) (4 * i + j)) ∧ ∀ a j, ¬ (a = b + 2 ∧ 4 * i + k ≤ j ∧ j < 4 * i + 4) → G' a j = G a j := by
  intro d
  induction d with
  | zero =>
    intro k fu G hk hfu
    obtain ⟨fu, rfl⟩ : ∃ t, fu = t + 1 := ⟨fu - 1, by omega⟩
    have e3 : xwr ((i : Int) + 1) = ((i + 1 : Nat) : Int) := by rw [xwr_g _ (by omega) (by omega)]; omega
    refine ⟨G, ?_, fun j _ _ => by omega, fun _ _ _ => rfl⟩
    show g194_44b r10 (g194_44 r10 f fu) f _ _ _ _ _ = _
    unfold g194_44b
    rw [if_pos (by omega), e3]
  | succ d ih =>
    intro k fu G hk hfu
    obtain ⟨fu, rfl⟩ : ∃ t, fu = t + 1 := ⟨fu - 1, by omega⟩
    obtain ⟨G', k1, k2, k3⟩ := ih (k + 1) fu (xup2 G (b + 2) (4 * i + k) (G (b1 + 2) (4 * i + k))) (by omega) (by omega)
    have e1 : xwr ((xwr (4 * (i : Int))) + (k : Int)) = ((4 * i + k : Nat) : Int) := by
      rw [xwr_g (4 * (i : Int)) (by omega) (by omega), xwr_g _ (by omega) (by omega)]; omega
    have e3 : xwr ((k : Int) + 1) = ((k + 1 : Nat) : Int) := by rw [xwr_g _ (by omega) (by omega)]; omega
    refine ⟨G', ?_, fun j h1 h2 => ?_, fun a j h => by rw [k3 a j (by omega), xup2_n (by omega)]⟩
    · show g194_44b r10 (g194_44 r10 f fu) f _ _ _ _ _ = _
      unfold g194_44b
      rw [if_neg (by omega), e1, if_pos (by omega), if_pos (by omega), Int.toNat_natCast, Option.bind_some, e3]
      exact k1
    · by_cases c : j = k
      · rw [c, k3 _ _ (by omega), xup2_s]
      · rw [k2 j (by omega) h2, xup2_n (by omega)]
theorem isFb.far {b b1 : Nat} (h : isFb b) (h1 : isFb b1) (hne : b1 ≠ b) : b + 4 ≤ b1 ∨ b1 + 4 ≤ b := by
  unfold isFb at h h1
  omega
/-- copy -/
theorem l_194 {G : xG_} {F : List pFc} (hf : 3500 < f) (hb : isFb b) (hb1 : isFb b1) (hne : b1 ≠ b) (h : rFa G b1 F) : ∃ G', g194 f b b1 G = some G' ∧ rFa G' b F ∧ xfy b G G' := by
  have far := hb.far hb1 hne
  have hl := h.2.1
  have loop : ∀ (d i fu : Nat) (G1 : xG_), i + d = F.length → d < fu → G1 b 3 = (F.length : Int) → (∀ a j, b1 ≤ a → a ≤ b1 + 3 → G1 a j = G a j) → (∀ k, k < i → G1 (b + 1) k = (F.getD k dFc).1 ∧ G1 (b + 3) k = ((F.getD k dFc).2.length : Int) ∧ (F.getD k dFc).2.length ≤ 4 ∧ ∀ j, j < 4 → G1 (b + 2) (4 * k + j) = (F.getD k dFc).2.getD j 0) →
      ∃ G', g194_10 f fu b b1 (i : Int) G1 = some G' ∧ rFa G' b F ∧ ∀ a j, a ≠ b + 1 → a ≠ b + 2 → a ≠ b + 3 → G' a j = G1 a j := by
    intro d
    induction d with
    | zero =>
      intro i fu G1 h1 h2 h3 h4 h5
      obtain ⟨fu, rfl⟩ : ∃ t, fu = t + 1 := ⟨fu - 1, by omega⟩
      refine ⟨G1, ?_, ⟨h3, hl, fun k hk => h5 k (by omega)⟩, fun _ _ _ _ _ => rfl⟩
      show g194_10b (g194_10 f fu) f _ _ _ _ = _
      unfold g194_10b
      rw [h3, if_pos (by omega)]
    | succ d ih =>
      intro i fu G1 h1 h2 h3 h4 h5
      obtain ⟨fu, rfl⟩ : ∃ t, fu = t + 1 := ⟨fu - 1, by omega⟩
      obtain ⟨q1, q2, q3, q4⟩ := h.2.2 i (by omega)
      obtain ⟨G2, k1, k2, k3⟩ := l_194_44 (f := f) (b := b) (b1 := b1) (r10 := g194_10 f fu) (i := i) (by omega) hne 4 0 f (xup2 (xup2 G1 (b + 1) i (G1 (b1 + 1) i)) (b + 3) i (G1 (b1 + 3) i)) (by omega) (by omega)
      obtain ⟨G', u1, u2, u3⟩ := ih (i + 1) fu G2 (by omega) (by omega) (by rw [k3 _ _ (by omega), xup2_n (by omega), xup2_n (by omega)]; exact h3) (fun a j _ _ => by rw [k3 _ _ (by omega), xup2_n (by omega), xup2_n (by omega)]; exact h4 a j (by omega) (by omega)) (fun k hk => by
        by_cases ck : k = i
        · rw [ck]
          refine ⟨?_, ?_, q3, fun j hj => ?_⟩
          · rw [k3 _ _ (by omega), xup2_n (by omega), xup2_s, h4 _ _ (by omega) (by omega)]; exact q1
          · rw [k3 _ _ (by omega), xup2_s, h4 _ _ (by omega) (by omega)]; exact q2
          · rw [k2 j (by omega) hj, xup2_n (by omega), xup2_n (by omega), h4 _ _ (by omega) (by omega)]; exact q4 j hj
        · obtain ⟨z1, z2, z3, z4⟩ := h5 k (by omega)
          refine ⟨?_, ?_, z3, fun j hj => ?_⟩
          · rw [k3 _ _ (by omega), xup2_n (by omega), xup2_n (by omega)]; exact z1
          · rw [k3 _ _ (by omega), xup2_n (by omega), xup2_n (by omega)]; exact z2
          · rw [k3 _ _ (by omega), xup2_n (by omega), xup2_n (by omega)]; exact z4 j hj)
      refine ⟨G', ?_, u2, fun a j y1 y2 y3 => by rw [u3 a j y1 y2 y3, k3 _ _ (by omega), xup2_n (by omega), xup2_n (by omega)]⟩
      show g194_10b (g194_10 f fu) f _ _ _ _ = _
      unfold g194_10b
      rw [h3, if_neg (by omega), if_pos (by omega), if_pos (by omega), Int.toNat_natCast, Option.bind_some, if_pos (by omega), if_pos (by omega), xup2_n (by omega), Option.bind_some]
      exact k1.trans u1
  obtain ⟨G', k1, k2, k3⟩ := loop F.length 0 f (xup2 G b 3 (F.length : Int)) (by omega) (by omega) (xup2_s _ _ _ _) (fun a j _ _ => xup2_n (by omega)) (fun k hk => absurd hk (by omega))
  refine ⟨G', ?_, k2, fun a j h1 h2 h3 h4 => by rw [k3 a j h2 h3 h4, xup2_n h1]⟩
  unfold g194
  rw [h.1, Option.bind_some]
  exact k1
end
end
section
/-! The reference's rows of a predicate -/
/-- a row: values, RANK -/
abbrev pRw : Type := List Int × Int
abbrev dRw : pRw := ([], 0)
def vLt (a b : List Int) : Prop := fLt (0, a) (0, b)
def rwLt (a b : pRw) : Prop := vLt a.1 b.1
theorem vLt_irr (a : List Int) : ¬ vLt a a := fLt_irr _
theorem vLt_tr {a b c : List Int} (h1 : vLt a b) (h2 : vLt b c) : vLt a c := fLt_tr h1 h2
theorem rwLt_irr (a : pRw) : ¬ rwLt a a := fLt_irr _
theorem rwLt_tr {a b c : pRw} (h1 : rwLt a b) (h2 : rwLt b c) : rwLt a c := fLt_tr h1 h2
theorem vLt_iff {a b : List Int} (h : a.length = b.length) : vLt a b ↔ vCmp a b < 0 := by
  have e : fCmp (0, a) (0, b) = vCmp a b := by
    unfold fCmp
    rw [if_pos rfl, if_pos h]
  unfold vLt fLt
  rw [e]
theorem vLt_tot (a b : List Int) : vLt a b ∨ a = b ∨ vLt b a := by
  rcases fLt_tot (0, a) (0, b) with h | h | h
  · exact .inl h
  · injection h with _ h
    exact .inr (.inl h)
  · exact .inr (.inr h)
def rRw (G : xG_) (p n : Nat) (R : List pRw) : Prop := G 108 p = (R.length : Int) ∧ R.length ≤ 520 ∧ ∀ i, i < R.length → (R.getD i dRw).1.length = n ∧ (∀ j, j < 4 → G 107 ((p * 520 + i) * 4 + j) = (R.getD i dRw).1.getD j 0) ∧ G 109 (p * 520 + i) = (R.getD i dRw).2
def rRr (p : Nat) (G : xG_) (i : Nat) (G' : xG_) (i' : Nat) : Prop := (∀ j, j < 4 → G' 107 ((p * 520 + i') * 4 + j) = G 107 ((p * 520 + i) * 4 + j)) ∧ G' 109 (p * 520 + i') = G 109 (p * 520 + i)
theorem rRr.tr {p i j k : Nat} {G G1 G2 : xG_} (h1 : rRr p G i G1 j) (h2 : rRr p G1 j G2 k) : rRr p G i G2 k := ⟨fun m hm => (h2.1 m hm).trans (h1.1 m hm), h2.2.trans h1.2⟩
theorem rRr.rf (p i : Nat) (G : xG_) : rRr p G i G i := ⟨fun _ _ => rfl, rfl⟩
/-- only rows of p have changed -/
def xfw (p : Nat) (G G' : xG_) : Prop := ∀ a j, ¬ (a = 107 ∧ p * 520 * 4 ≤ j ∧ j < (p * 520 + 520) * 4) → ¬ (a = 108 ∧ j = p) → ¬ (a = 109 ∧ p * 520 ≤ j ∧ j < p * 520 + 520) → G' a j = G a j
theorem xl107 : ((xl_t 107).2.2 : Int) = 33280 := by decide +kernel
section
variable {f p n c i : Nat} {G : xG_} {R : List pRw} {xs : List Int}
theorem l_261 {k : Nat} (hp : p < 16) (hk : k ≤ 520) : g261 f (p : Int) (k : Int) G = some ((((p * 520 + k) * 4 : Nat) : Int), G) := by
  unfold g261
  rw [xwr_g ((p : Int) * 520) (by omega) (by omega), xwr_g ((p : Int) * 520 + (k : Int)) (by omega) (by omega), xwr_g _ (by omega) (by omega)]
  congr 2
theorem rRw.ve {k : Nat} (h : rRw G p n R) (hp : p < 16) (hn : n ≤ 4) (hk : k < R.length) : rVe G 107 ((p * 520 + k) * 4) (R.getD k dRw).1 := by
  obtain ⟨a1, a2, a3⟩ := h
  obtain ⟨b1, b2, b3⟩ := a3 k hk
  exact ⟨by rw [xl107, b1]; omega, by omega, by omega, fun j hj => b2 j (by omega)⟩
/-- placeOf -/
theorem l_263 (hf : 600 < f) (hp : p < 16) (hn : n ≤ 4) (h : rRw G p n R) (h4 : G 4 p = (n : Int)) (hx : rVe G c i xs) (hxn : xs.length = n) :
    ∃ r : Int, g263 f (p : Int) c (i : Int) G = some (r, G) ∧ ((r = -1 ∧ ∀ y, y ∈ R → y.1 ≠ xs) ∨ ∃ k : Nat, k < R.length ∧ r = (k : Int) ∧ (R.getD k dRw).1 = xs) := by
  have hl := h.2.1
  have loop : ∀ (d k fu : Nat), k + d = R.length → d < fu → (∀ j, j < k → (R.getD j dRw).1 ≠ xs) → ∃ r : Int, g263_3 f fu (p : Int) c (i : Int) (k : Int) G = some (r, G) ∧ ((r = -1 ∧ ∀ y, y ∈ R → y.1 ≠ xs) ∨ ∃ k : Nat, k < R.length ∧ r = (k : Int) ∧ (R.getD k dRw).1 = xs) := by
    intro d
    induction d with
    | zero =>
      intro k fu h1 h2 h3
      obtain ⟨fu, rfl⟩ : ∃ t, fu = t + 1 := ⟨fu - 1, by omega⟩
      refine ⟨-1, ?_, .inl ⟨rfl, fun y hy => ?_⟩⟩
      · show g263_3b (g263_3 f fu) f _ _ _ _ _ = _
        unfold g263_3b
        rw [if_pos (by omega), Int.toNat_natCast, h.1, if_pos (by omega)]
      · obtain ⟨j, hj, rfl⟩ := List.getElem_of_mem hy
        have := h3 j (by omega)
        rw [getD_e hj] at this
        exact this
    | succ d ih =>
      intro k fu h1 h2 h3
      obtain ⟨fu, rfl⟩ : ∃ t, fu = t + 1 := ⟨fu - 1, by omega⟩
      have hk : k < R.length := by omega
      have e3 : xwr ((k : Int) + 1) = ((k + 1 : Nat) : Int) := by rw [xwr_g _ (by omega) (by omega)]; omega
      have hk1 := (h.2.2 k hk).1
      have step : g263_3 f (fu + 1) (p : Int) c (i : Int) (k : Int) G = if ¬ vCmp (R.getD k dRw).1 xs = 0 then g263_3 f fu (p : Int) c (i : Int) ((k + 1 : Nat) : Int) G else some ((k : Int), G) := by
        show g263_3b (g263_3 f fu) f _ _ _ _ _ = _
        unfold g263_3b
        rw [if_pos (by omega), Int.toNat_natCast, h.1, if_neg (by omega), l_261 hp (by omega), Option.bind_some, if_pos (by omega)]
        show Option.bind (g262 f 107 _ c (i : Int) (G 4 p) G) _ = _
        rw [h4, l_262 (by omega) (h.ve hp hn hk) hx hk1 hxn, Option.bind_some, e3]
      rw [step]
      by_cases c1 : vCmp (R.getD k dRw).1 xs = 0
      · rw [if_neg (fun q => q c1)]
        exact ⟨_, rfl, .inr ⟨k, hk, rfl, vCmp_eq (by omega) c1⟩⟩
      · rw [if_pos c1]
        refine ih (k + 1) fu (by omega) (by omega) (fun j hj => ?_)
        by_cases cj : j = k
        · rw [cj]
          intro q
          exact c1 (by rw [q]; exact vCmp_self xs)
        · exact h3 j (by omega)
  unfold g263
  exact loop R.length 0 f (by omega) (by omega) (fun j hj => absurd hj (by omega))
theorem l_264_58 {r20 : Int → Nat → Int → Int → Int → xG_ → Option xG_} {u v : Int} {k : Nat} (hp : p < 16) (hk : k < 519) : ∀ (d j fu : Nat) (G : xG_), j + d = 4 → d < fu → ∃ G', g264_58 r20 f fu (p : Int) c u v ((k + 1 : Nat) : Int) (j : Int) G = r20 (p : Int) c u v (k : Int) G' ∧ (∀ z, j ≤ z → z < 4 → G' 107 ((p * 520 + (k + 1)) * 4 + z) = G 107 ((p * 520 + k) * 4 + z)) ∧ G' 109 (p * 520 + (k + 1)) = G 109 (p * 520 + k) ∧ ∀ a z, ¬ (a = 107 ∧ (p * 520 + (k + 1)) * 4 + j ≤ z ∧ z < (p * 520 + (k + 1)) * 4 + 4) → ¬ (a = 109 ∧ z = p * 520 + (k + 1)) → G' a z = G a z := by
  intro d
  induction d with
  | zero =>
    intro j fu G h1 h2
    obtain ⟨fu, rfl⟩ : ∃ t, fu = t + 1 := ⟨fu - 1, by omega⟩
    have e1 : xwr (xwr ((p : Int) * 520) + ((k + 1 : Nat) : Int)) = ((p * 520 + (k + 1) : Nat) : Int) := by
      rw [xwr_g ((p : Int) * 520) (by omega) (by omega), xwr_g _ (by omega) (by omega)]; omega
    have e2 : xwr (((p * 520 + (k + 1) : Nat) : Int) - 1) = ((p * 520 + k : Nat) : Int) := by rw [xwr_g _ (by omega) (by omega)]; omega
    have e3 : xwr (((k + 1 : Nat) : Int) + -1) = (k : Int) := by rw [xwr_g _ (by omega) (by omega)]; omega
    refine ⟨xup2 G 109 (p * 520 + (k + 1)) (G 109 (p * 520 + k)), ?_, fun z _ _ => by omega, xup2_s _ _ _ _, fun a z _ h => xup2_n h⟩
    show g264_58b r20 (g264_58 r20 f fu) f _ _ _ _ _ _ _ = _
    unfold g264_58b
    rw [if_pos (by omega), e1, e2, if_pos (by omega), if_pos (by omega), Int.toNat_natCast, Int.toNat_natCast, Option.bind_some, e3]
  | succ d ih =>
    intro j fu G h1 h2
    obtain ⟨fu, rfl⟩ : ∃ t, fu = t + 1 := ⟨fu - 1, by omega⟩
    obtain ⟨G', k1, k2, k3, k4⟩ := ih (j + 1) fu (xup2 G 107 ((p * 520 + (k + 1)) * 4 + j) (G 107 ((p * 520 + k) * 4 + j))) (by omega) (by omega)
    have e1 : xwr (((k + 1 : Nat) : Int) - 1) = (k : Int) := by rw [xwr_g _ (by omega) (by omega)]; omega
    have e2 : xwr ((((p * 520 + k) * 4 : Nat) : Int) + (j : Int)) = (((p * 520 + k) * 4 + j : Nat) : Int) := by rw [xwr_g _ (by omega) (by omega)]; omega
    have e3 : xwr ((((p * 520 + (k + 1)) * 4 : Nat) : Int) + (j : Int)) = (((p * 520 + (k + 1)) * 4 + j : Nat) : Int) := by rw [xwr_g _ (by omega) (by omega)]; omega
    have e4 : xwr ((j : Int) + 1) = ((j + 1 : Nat) : Int) := by rw [xwr_g _ (by omega) (by omega)]; omega
    refine ⟨G', ?_, fun z y1 y2 => ?_, by rw [k3, xup2_n (by omega)], fun a z y1 y2 => by rw [k4 a z (by omega) y2, xup2_n (by omega)]⟩
    · rw [← k1]
      show g264_58b r20 (g264_58 r20 f fu) f _ _ _ _ _ _ _ = _
      unfold g264_58b
      rw [if_neg (by omega), l_261 hp (by omega), Option.bind_some, e1, l_261 hp (by omega), Option.bind_some]
      simp only [e2, e3]
      rw [if_pos (by omega), if_pos (by omega), Int.toNat_natCast, Int.toNat_natCast, Option.bind_some, e4]
    · by_cases cz : z = j
      · rw [cz, k4 _ _ (by omega) (by omega), xup2_s]
      · rw [k2 z (by omega) y2, xup2_n (by omega)]
theorem l_264_139 {u : Int} {k : Nat} {G0 : xG_} (hp : p < 16) (hk : k < 520) (hn : n ≤ 4) (hc : c ≠ 107) (hv : rVe G0 c i xs) (hxn : xs.length = n) : ∀ (d j fu : Nat) (G : xG_), j + d = 4 → d < fu → (∀ z, G c z = G0 c z) → G 4 p = (n : Int) → 0 ≤ G 108 p → G 108 p < 600 →
    ∃ G', g264_139 f fu (p : Int) c (i : Int) u (k : Int) (j : Int) G = some G' ∧ (∀ z, j ≤ z → z < 4 → G' 107 ((p * 520 + k) * 4 + z) = xs.getD z 0) ∧ G' 109 (p * 520 + k) = u ∧ G' 108 p = G 108 p + 1 ∧ ∀ a z, ¬ (a = 107 ∧ (p * 520 + k) * 4 + j ≤ z ∧ z < (p * 520 + k) * 4 + 4) → ¬ (a = 109 ∧ z = p * 520 + k) → ¬ (a = 108 ∧ z = p) → G' a z = G a z := by
  obtain ⟨v1, v2, v3, v4⟩ := hv
  intro d
  induction d with
  | zero =>
    intro j fu G h1 h2 he h4 y1 y2
    obtain ⟨fu, rfl⟩ : ∃ t, fu = t + 1 := ⟨fu - 1, by omega⟩
    have e1 : xwr (xwr ((p : Int) * 520) + (k : Int)) = ((p * 520 + k : Nat) : Int) := by
      rw [xwr_g ((p : Int) * 520) (by omega) (by omega), xwr_g _ (by omega) (by omega)]; omega
    refine ⟨xup2 (xup2 G 109 (p * 520 + k) u) 108 p (G 108 p + 1), ?_, fun z _ _ => by omega, by rw [xup2_n (by omega), xup2_s], xup2_s _ _ _ _, fun a z _ q1 q2 => by rw [xup2_n q2, xup2_n q1]⟩
    show g264_139b (g264_139 f fu) f _ _ _ _ _ _ _ = _
    unfold g264_139b
    rw [if_pos (by omega), e1, if_pos (by omega), Int.toNat_natCast, Option.bind_some, if_pos (by omega), if_pos (by omega), Int.toNat_natCast, xup2_n (by omega), xwr_g _ (by omega) (by omega), Option.bind_some]
  | succ d ih =>
    intro j fu G h1 h2 he h4 y1 y2
    obtain ⟨fu, rfl⟩ : ∃ t, fu = t + 1 := ⟨fu - 1, by omega⟩
    have e3 : xwr ((((p * 520 + k) * 4 : Nat) : Int) + (j : Int)) = (((p * 520 + k) * 4 + j : Nat) : Int) := by rw [xwr_g _ (by omega) (by omega)]; omega
    have e4 : xwr ((j : Int) + 1) = ((j + 1 : Nat) : Int) := by rw [xwr_g _ (by omega) (by omega)]; omega
    have step : g264_139 f (fu + 1) (p : Int) c (i : Int) u (k : Int) (j : Int) G = g264_139 f fu (p : Int) c (i : Int) u (k : Int) ((j + 1 : Nat) : Int) (xup2 G 107 ((p * 520 + k) * 4 + j) (xs.getD j 0)) := by
      show g264_139b (g264_139 f fu) f _ _ _ _ _ _ _ = _
      unfold g264_139b g264_183
      rw [if_neg (by omega), l_261 hp (by omega), Option.bind_some, if_pos (by omega)]
      show (if G 4 ((p : Int)).toNat ≤ (j : Int) then _ else _) = _
      rw [Int.toNat_natCast, h4, xl107]
      simp only [e3, e4]
      by_cases cj : n ≤ j
      · have ev : xs.getD j 0 = 0 := by rw [List.getD_eq_getElem?_getD, List.getElem?_eq_none (by omega)]; rfl
        rw [if_pos (by omega), if_pos (by omega), ev, Int.toNat_natCast]
        rfl
      · have ec : xwr ((i : Int) + (j : Int)) = ((i + j : Nat) : Int) := by rw [xwr_g _ (by omega) (by omega)]; omega
        rw [if_neg (by omega), ec, if_pos (by omega), if_pos (by omega), Int.toNat_natCast, Int.toNat_natCast, he, v4 j (by omega)]
        rfl
    obtain ⟨G', k1, k2, k3, k4, k5⟩ := ih (j + 1) fu (xup2 G 107 ((p * 520 + k) * 4 + j) (xs.getD j 0)) (by omega) (by omega) (fun z => by rw [xup2_n (by omega)]; exact he z) (by rw [xup2_n (by omega)]; exact h4) (by rw [xup2_n (by omega)]; exact y1) (by rw [xup2_n (by omega)]; exact y2)
    refine ⟨G', by rw [step]; exact k1, fun z q1 q2 => ?_, k3, by rw [k4, xup2_n (by omega)], fun a z q1 q2 q3 => by rw [k5 a z (by omega) q2 q3, xup2_n (by omega)]⟩
    by_cases cz : z = j
    · rw [cz, k5 _ _ (by omega) (by omega) (by omega), xup2_s]
    · exact k2 z (by omega) q2
end
end
section
/-! The reference's rows of a predicate: one more, one less -/
section
variable {f p n c i : Nat} {G : xG_} {R : List pRw} {xs : List Int}
theorem rRw.at {k k' : Nat} {G' : xG_} (h : rRw G p n R) (hk : k < R.length) (hr : rRr p G k G' k') : (R.getD k dRw).1.length = n ∧ (∀ j, j < 4 → G' 107 ((p * 520 + k') * 4 + j) = (R.getD k dRw).1.getD j 0) ∧ G' 109 (p * 520 + k') = (R.getD k dRw).2 := by
  obtain ⟨q1, q2, q3⟩ := h.2.2 k hk
  exact ⟨q1, fun j hj => by rw [hr.1 j hj]; exact q2 j hj, by rw [hr.2]; exact q3⟩
theorem l_264_20 {u : Int} (hf : 600 < f) (hp : p < 16) (hn : n ≤ 4) (hc : c ≠ 107 ∧ c ≠ 109) (h : rRw G p n R) (hl : R.length < 520) (hx : rVe G c i xs) (hxn : xs.length = n) : ∀ (m fu : Nat) (G1 : xG_), m ≤ R.length → m < fu → G1 4 p = (n : Int) → (∀ z, G1 c z = G c z) → (∀ j, j < m → rRr p G j G1 j) →
    ∃ k G', k ≤ m ∧ g264_20 f fu (p : Int) c (i : Int) u (m : Int) G1 = g264_136 f (p : Int) c (i : Int) u (k : Int) G' ∧ (∀ j, k ≤ j → j < m → rRr p G1 j G' (j + 1)) ∧ (∀ j, j < k ∨ m < j → rRr p G1 j G' j) ∧ (∀ j, j + 1 = k → ¬ 0 < vCmp (R.getD j dRw).1 xs) ∧ (∀ j, k ≤ j → j < m → 0 < vCmp (R.getD j dRw).1 xs) ∧ ∀ a z, ¬ (a = 107 ∧ p * 520 * 4 ≤ z ∧ z < (p * 520 + 520) * 4) → ¬ (a = 109 ∧ p * 520 ≤ z ∧ z < p * 520 + 520) → G' a z = G1 a z := by
  intro m
  induction m with
  | zero =>
    intro fu G1 h1 h2 h3 h4 h5
    obtain ⟨fu, rfl⟩ : ∃ t, fu = t + 1 := ⟨fu - 1, by omega⟩
    refine ⟨0, G1, Nat.le_refl _, ?_, fun j _ _ => by omega, fun j _ => .rf _ _ _, fun j _ => by omega, fun j _ _ => by omega, fun _ _ _ _ => rfl⟩
    show g264_20b (g264_20 f fu) f _ _ _ _ _ _ = _
    unfold g264_20b
    rw [if_pos (by omega)]
  | succ m ih =>
    intro fu G1 h1 h2 h3 h4 h5
    obtain ⟨fu, rfl⟩ : ∃ t, fu = t + 1 := ⟨fu - 1, by omega⟩
    have hm : m < R.length := by omega
    have e1 : xwr (((m + 1 : Nat) : Int) - 1) = (m : Int) := by rw [xwr_g _ (by omega) (by omega)]; omega
    have hv1 : rVe G1 107 ((p * 520 + m) * 4) (R.getD m dRw).1 := by
      obtain ⟨z1, z2, z3, z4⟩ := h.ve hp hn hm
      refine ⟨z1, z2, z3, fun j hj => ?_⟩
      rw [(h5 m (by omega)).1 j (by have := (h.2.2 m hm).1; omega)]
      exact z4 j hj
    have hx1 : rVe G1 c i xs := ⟨hx.1, hx.2.1, hx.2.2.1, fun j hj => by rw [h4]; exact hx.2.2.2 j hj⟩
    have step : g264_20 f (fu + 1) (p : Int) c (i : Int) u ((m + 1 : Nat) : Int) G1 = if vCmp (R.getD m dRw).1 xs ≤ 0 then g264_136 f (p : Int) c (i : Int) u ((m + 1 : Nat) : Int) G1 else g264_58 (g264_20 f fu) f f (p : Int) c (i : Int) u ((m + 1 : Nat) : Int) 0 G1 := by
      show g264_20b (g264_20 f fu) f _ _ _ _ _ _ = _
      unfold g264_20b
      rw [if_neg (by omega), e1, l_261 hp (by omega), Option.bind_some, if_pos (by omega)]
      show Option.bind (g262 f 107 _ c (i : Int) (G1 4 ((p : Int)).toNat) G1) _ = _
      rw [Int.toNat_natCast, h3, l_262 (by omega) hv1 hx1 (h.2.2 m hm).1 hxn, Option.bind_some]
    rw [step]
    by_cases c1 : vCmp (R.getD m dRw).1 xs ≤ 0
    · rw [if_pos c1]
      refine ⟨m + 1, G1, Nat.le_refl _, rfl, fun j _ _ => by omega, fun j _ => .rf _ _ _, fun j hj => ?_, fun j _ _ => by omega, fun _ _ _ _ => rfl⟩
      have : j = m := by omega
      rw [this]
      omega
    · rw [if_neg c1]
      obtain ⟨G2, q1, q2, q3, q4⟩ := l_264_58 (f := f) (p := p) (c := c) (r20 := g264_20 f fu) (u := (i : Int)) (v := u) (k := m) hp (by omega) 4 0 f G1 (by omega) (by omega)
      have r2 : rRr p G1 m G2 (m + 1) := ⟨fun j hj => q2 j (by omega) hj, q3⟩
      have r3 : ∀ j, j ≠ m + 1 → rRr p G1 j G2 j := fun j hj => ⟨fun z hz => q4 _ _ (by omega) (by omega), q4 _ _ (by omega) (by omega)⟩
      obtain ⟨k, G', k0, k1, k2, k3, k4, k5, k6⟩ := ih fu G2 (by omega) (by omega) (by rw [q4 _ _ (by omega) (by omega)]; exact h3) (fun z => by rw [q4 _ _ (by omega) (by omega)]; exact h4 z) (fun j hj => (h5 j (by omega)).tr (r3 j (by omega)))
      refine ⟨k, G', by omega, by rw [← k1]; exact q1, fun j y1 y2 => ?_, fun j hj => (r3 j (by omega)).tr (k3 j (by omega)), k4, fun j y1 y2 => ?_, fun a z y1 y2 => by rw [k6 a z y1 y2, q4 a z (fun q => y1 ⟨q.1, by omega, by omega⟩) (fun q => y2 ⟨q.1, by omega, by omega⟩)]⟩
      · by_cases cj : j = m
        · rw [cj]
          exact r2.tr (k3 (m + 1) (by omega))
        · exact (r3 j (by omega)).tr (k2 j y1 (by omega))
      · by_cases cj : j = m
        · rw [cj]
          omega
        · exact k5 j y1 (by omega)
/-- add -/
theorem l_264 {u : Int} (hf : 600 < f) (hp : p < 16) (hn : n ≤ 4) (hc : c ≠ 107 ∧ c ≠ 108 ∧ c ≠ 109) (h : rRw G p n R) (hs : R.Pairwise rwLt) (hl : R.length < 520) (h4 : G 4 p = (n : Int)) (hx : rVe G c i xs) (hxn : xs.length = n) :
    ∃ G' R', g264 f (p : Int) c (i : Int) u G = some G' ∧ rRw G' p n R' ∧ R'.Pairwise rwLt ∧ xfw p G G' ∧ (((∃ y, y ∈ R ∧ y.1 = xs) ∧ R' = R) ∨ ((∀ y, y ∈ R → y.1 ≠ xs) ∧ R'.length = R.length + 1 ∧ ∀ y, y ∈ R' ↔ y ∈ R ∨ y = (xs, u))) := by
  obtain ⟨r, e1, e2⟩ := l_263 hf hp hn h h4 hx hxn
  rcases e2 with ⟨e2, e3⟩ | ⟨k, k1, k2, k3⟩
  · obtain ⟨k, G1, a0, a1, a2, a3, a4, a5, a6⟩ := l_264_20 (f := f) (u := u) hf hp hn ⟨hc.1, hc.2.2⟩ h hl hx hxn R.length f G (Nat.le_refl _) (by omega) h4 (fun _ => rfl) (fun j _ => .rf _ _ _)
    obtain ⟨G2, b1, b2, b3, b4, b5⟩ := l_264_139 (f := f) (c := c) (i := i) (u := u) (G0 := G) hp (by omega : k < 520) hn hc.1 hx hxn 4 0 f G1 (by omega) (by omega) (fun z => a6 _ _ (by omega) (by omega)) (by rw [a6 _ _ (by omega) (by omega)]; exact h4) (by rw [a6 _ _ (by omega) (by omega), h.1]; omega) (by rw [a6 _ _ (by omega) (by omega), h.1]; omega)
    have keep : ∀ j, j ≠ k → j < 520 → rRr p G1 j G2 j := fun j hj hj2 => ⟨fun z hz => b5 _ _ (by omega) (by omega) (by omega), b5 _ _ (by omega) (by omega) (by omega)⟩
    have hnl : ∀ j, j < R.length → (R.getD j dRw).1.length = xs.length := fun j hj => by rw [(h.2.2 j hj).1, hxn]
    have hne : ∀ j, j < R.length → (R.getD j dRw).1 ≠ xs := fun j hj => by
      rw [getD_e hj]
      exact e3 _ (List.getElem_mem hj)
    have srt : (R.take k ++ (xs, u) :: R.drop k).Pairwise rwLt := by
      refine srt_ins hs (fun y hy => ?_) (fun y hy => ?_)
      · obtain ⟨j, hj, rfl⟩ := List.getElem_of_mem hy
        rw [List.length_take] at hj
        rw [List.getElem_take]
        have last : vLt (R.getD (k - 1) dRw).1 xs := by
          have z1 := a4 (k - 1) (by omega)
          have z2 := hne (k - 1) (by omega)
          rcases vLt_tot (R.getD (k - 1) dRw).1 xs with q | q | q
          · exact q
          · exact absurd q z2
          · have := (vLt_iff (hnl (k - 1) (by omega)).symm).mp q
            have := vCmp_anti (R.getD (k - 1) dRw).1 xs
            omega
        show vLt (R[j]).1 xs
        rw [← getD_e (d := dRw) (by omega : j < R.length)]
        by_cases cj : j = k - 1
        · rw [cj]; exact last
        · have : rwLt (R.getD j dRw) (R.getD (k - 1) dRw) := srt_get hs (by omega) (by omega)
          exact vLt_tr this last
      · obtain ⟨j, hj, rfl⟩ := List.getElem_of_mem hy
        rw [List.length_drop] at hj
        rw [List.getElem_drop]
        show vLt xs (R[k + j]).1
        rw [← getD_e (d := dRw) (by omega : k + j < R.length)]
        have z1 := a5 (k + j) (by omega) (by omega)
        have z2 := vCmp_anti (R.getD (k + j) dRw).1 xs
        exact (vLt_iff (hnl (k + j) (by omega)).symm).mpr (by omega)
    refine ⟨G2, R.take k ++ (xs, u) :: R.drop k, ?_, ⟨?_, by rw [len_ins a0]; omega, fun j hj => ?_⟩, srt, fun a j y1 y2 y3 => by rw [b5 a j (fun q => y1 ⟨q.1, by omega, by omega⟩) (fun q => y3 ⟨q.1, by omega, by omega⟩) y2, a6 a j y1 y3], .inr ⟨e3, len_ins a0, fun y => srt_ins_mem⟩⟩
    · unfold g264
      rw [e1, Option.bind_some, e2, if_pos rfl, if_pos (by omega)]
      show g264_20 f f (p : Int) c (i : Int) u (G 108 ((p : Int)).toNat) G = _
      rw [Int.toNat_natCast, h.1, a1]
      unfold g264_136
      exact b1
    · rw [len_ins a0, b4, a6 _ _ (by omega) (by omega), h.1]
      omega
    · rw [len_ins a0] at hj
      rw [getD_ins a0]
      by_cases j1 : j < k
      · rw [if_pos j1]
        exact h.at (by omega) ((a3 j (by omega)).tr (keep j (by omega) (by omega)))
      · rw [if_neg j1]
        by_cases j2 : j = k
        · rw [if_pos j2, j2]
          exact ⟨hxn, fun z hz => b2 z (by omega) hz, b3⟩
        · rw [if_neg j2]
          obtain ⟨j, rfl⟩ : ∃ t, j = t + 1 := ⟨j - 1, by omega⟩
          rw [Nat.add_sub_cancel]
          exact h.at (by omega) ((a2 j (by omega) (by omega)).tr (keep (j + 1) (by omega) (by omega)))
  · refine ⟨G, R, ?_, h, hs, fun _ _ _ _ _ => rfl, .inl ⟨⟨R.getD k dRw, by rw [getD_e k1]; exact List.getElem_mem k1, k3⟩, rfl⟩⟩
    unfold g264
    rw [e1, Option.bind_some, k2]
    show (if (k : Int) = -1 then _ else _) = _
    rw [if_neg (by omega)]
theorem l_265_25 {r12 : Int → Int → xG_ → Option xG_} {k : Nat} (hp : p < 16) (hk : k < 519) : ∀ (d j fu : Nat) (G : xG_), j + d = 4 → d < fu → ∃ G', g265_25 r12 f fu (p : Int) (k : Int) (j : Int) G = r12 (p : Int) ((k + 1 : Nat) : Int) G' ∧ (∀ z, j ≤ z → z < 4 → G' 107 ((p * 520 + k) * 4 + z) = G 107 ((p * 520 + (k + 1)) * 4 + z)) ∧ G' 109 (p * 520 + k) = G 109 (p * 520 + (k + 1)) ∧ ∀ a z, ¬ (a = 107 ∧ (p * 520 + k) * 4 + j ≤ z ∧ z < (p * 520 + k) * 4 + 4) → ¬ (a = 109 ∧ z = p * 520 + k) → G' a z = G a z := by
  intro d
  induction d with
  | zero =>
    intro j fu G h1 h2
    obtain ⟨fu, rfl⟩ : ∃ t, fu = t + 1 := ⟨fu - 1, by omega⟩
    have e1 : xwr (xwr ((p : Int) * 520) + (k : Int)) = ((p * 520 + k : Nat) : Int) := by
      rw [xwr_g ((p : Int) * 520) (by omega) (by omega), xwr_g _ (by omega) (by omega)]; omega
    have e2 : xwr (((p * 520 + k : Nat) : Int) + 1) = ((p * 520 + (k + 1) : Nat) : Int) := by rw [xwr_g _ (by omega) (by omega)]; omega
    have e3 : xwr ((k : Int) + 1) = ((k + 1 : Nat) : Int) := by rw [xwr_g _ (by omega) (by omega)]; omega
    refine ⟨xup2 G 109 (p * 520 + k) (G 109 (p * 520 + (k + 1))), ?_, fun z _ _ => by omega, xup2_s _ _ _ _, fun a z _ h => xup2_n h⟩
    show g265_25b r12 (g265_25 r12 f fu) f _ _ _ _ = _
    unfold g265_25b
    rw [if_pos (by omega), e1, e2, if_pos (by omega), if_pos (by omega), Int.toNat_natCast, Int.toNat_natCast, Option.bind_some, e3]
  | succ d ih =>
    intro j fu G h1 h2
    obtain ⟨fu, rfl⟩ : ∃ t, fu = t + 1 := ⟨fu - 1, by omega⟩
    obtain ⟨G', k1, k2, k3, k4⟩ := ih (j + 1) fu (xup2 G 107 ((p * 520 + k) * 4 + j) (G 107 ((p * 520 + (k + 1)) * 4 + j))) (by omega) (by omega)
    have e1 : xwr ((k : Int) + 1) = ((k + 1 : Nat) : Int) := by rw [xwr_g _ (by omega) (by omega)]; omega
    have e2 : xwr ((((p * 520 + k) * 4 : Nat) : Int) + (j : Int)) = (((p * 520 + k) * 4 + j : Nat) : Int) := by rw [xwr_g _ (by omega) (by omega)]; omega
    have e3 : xwr ((((p * 520 + (k + 1)) * 4 : Nat) : Int) + (j : Int)) = (((p * 520 + (k + 1)) * 4 + j : Nat) : Int) := by rw [xwr_g _ (by omega) (by omega)]; omega
    have e4 : xwr ((j : Int) + 1) = ((j + 1 : Nat) : Int) := by rw [xwr_g _ (by omega) (by omega)]; omega
    refine ⟨G', ?_, fun z y1 y2 => ?_, by rw [k3, xup2_n (by omega)], fun a z y1 y2 => by rw [k4 a z (by omega) y2, xup2_n (by omega)]⟩
    · rw [← k1]
      show g265_25b r12 (g265_25 r12 f fu) f _ _ _ _ = _
      unfold g265_25b
      rw [if_neg (by omega), l_261 hp (by omega), Option.bind_some, e1, l_261 hp (by omega), Option.bind_some]
      simp only [e2, e3]
      rw [if_pos (by omega), if_pos (by omega), Int.toNat_natCast, Int.toNat_natCast, Option.bind_some, e4]
    · by_cases cz : z = j
      · rw [cz, k4 _ _ (by omega) (by omega), xup2_s]
      · rw [k2 z (by omega) y2, xup2_n (by omega)]
/-- remove -/
theorem l_265 {k : Nat} (hf : 600 < f) (hp : p < 16) (h : rRw G p n R) (hk : k < R.length) : ∃ G', g265 f (p : Int) (k : Int) G = some G' ∧ rRw G' p n (R.take k ++ R.drop (k + 1)) ∧ xfw p G G' := by
  have hl := h.2.1
  have loop : ∀ (d m fu : Nat) (G1 : xG_), m + d = R.length - 1 → d < fu → G1 108 p = ((R.length - 1 : Nat) : Int) → ∃ G', g265_12 f fu (p : Int) (m : Int) G1 = some G' ∧ (∀ j, m ≤ j → j < R.length - 1 → rRr p G1 (j + 1) G' j) ∧ (∀ j, j < m → rRr p G1 j G' j) ∧ ∀ a z, ¬ (a = 107 ∧ p * 520 * 4 ≤ z ∧ z < (p * 520 + 520) * 4) → ¬ (a = 109 ∧ p * 520 ≤ z ∧ z < p * 520 + 520) → G' a z = G1 a z := by
    intro d
    induction d with
    | zero =>
      intro m fu G1 h1 h2 h3
      obtain ⟨fu, rfl⟩ : ∃ t, fu = t + 1 := ⟨fu - 1, by omega⟩
      refine ⟨G1, ?_, fun j _ _ => by omega, fun j _ => .rf _ _ _, fun _ _ _ _ => rfl⟩
      show g265_12b (g265_12 f fu) f _ _ _ = _
      unfold g265_12b
      rw [if_pos (by omega), Int.toNat_natCast, h3, if_pos (by omega)]
    | succ d ih =>
      intro m fu G1 h1 h2 h3
      obtain ⟨fu, rfl⟩ : ∃ t, fu = t + 1 := ⟨fu - 1, by omega⟩
      obtain ⟨G2, q1, q2, q3, q4⟩ := l_265_25 (f := f) (p := p) (r12 := g265_12 f fu) (k := m) hp (by omega) 4 0 f G1 (by omega) (by omega)
      have r2 : rRr p G1 (m + 1) G2 m := ⟨fun j hj => q2 j (by omega) hj, q3⟩
      have r3 : ∀ j, j ≠ m → rRr p G1 j G2 j := fun j hj => ⟨fun z hz => q4 _ _ (by omega) (by omega), q4 _ _ (by omega) (by omega)⟩
      obtain ⟨G', k1, k2, k3, k4⟩ := ih (m + 1) fu G2 (by omega) (by omega) (by rw [q4 _ _ (by omega) (by omega)]; exact h3)
      refine ⟨G', ?_, fun j y1 y2 => ?_, fun j hj => (r3 j (by omega)).tr (k3 j (by omega)), fun a z y1 y2 => by rw [k4 a z y1 y2, q4 a z (fun q => y1 ⟨q.1, by omega, by omega⟩) (fun q => y2 ⟨q.1, by omega, by omega⟩)]⟩
      · show g265_12b (g265_12 f fu) f _ _ _ = _
        unfold g265_12b
        rw [if_pos (by omega), Int.toNat_natCast, h3, if_neg (by omega)]
        exact q1.trans k1
      · by_cases cj : j = m
        · rw [cj]
          exact r2.tr (k3 m (by omega))
        · exact (r3 (j + 1) (by omega)).tr (k2 j (by omega) y2)
  have e5 : xwr ((R.length : Int) - 1) = ((R.length - 1 : Nat) : Int) := by rw [xwr_g _ (by omega) (by omega)]; omega
  obtain ⟨G1, a1, a2, a3, a4⟩ := loop (R.length - 1 - k) k f (xup2 G 108 p ((R.length - 1 : Nat) : Int)) (by omega) (by omega) (xup2_s _ _ _ _)
  have r0 : ∀ j, rRr p G j (xup2 G 108 p ((R.length - 1 : Nat) : Int)) j := fun j => ⟨fun z _ => xup2_n (by omega), xup2_n (by omega)⟩
  refine ⟨G1, ?_, ⟨by rw [len_del hk, a4 _ _ (by omega) (by omega), xup2_s], by rw [len_del hk]; omega, fun j hj => ?_⟩, fun a j y1 y2 y3 => by rw [a4 a j y1 y3, xup2_n y2]⟩
  · unfold g265
    rw [if_pos (by omega), if_pos (by omega), Int.toNat_natCast, h.1, e5, Option.bind_some]
    exact a1
  · rw [len_del hk] at hj
    rw [getD_del hk]
    by_cases j1 : j < k
    · rw [if_pos j1]
      exact h.at (by omega) ((r0 j).tr (a3 j j1))
    · rw [if_neg j1]
      exact h.at (by omega) ((r0 (j + 1)).tr (a2 j (by omega) hj))
end
end
section
/-! EXPRESSIONS: what one is worth -/
theorem i64_g (a : Int) (h1 : -9223372036854775808 ≤ a) (h2 : a < 9223372036854775808) : (Int64.ofInt a).toInt = a := Int64.toInt_ofInt_of_le h1 h2
theorem bmod_g (a : Int) (h1 : -9223372036854775808 ≤ a) (h2 : a < 9223372036854775808) : a.bmod (2 ^ 64) = a := by
  rw [Int.bmod_eq_of_le]
  · omega
  · omega
theorem xdiv8_g {a b : Int} (ha1 : -10000000000000 ≤ a) (ha2 : a ≤ 10000000000000) (hb1 : -10000000000000 ≤ b) (hb2 : b ≤ 10000000000000) : xdiv8 a b = a.tdiv b := by
  unfold xdiv8
  rw [Int64.toInt_div, i64_g a (by omega) (by omega), i64_g b (by omega) (by omega)]
  have h : (a.tdiv b).natAbs ≤ a.natAbs := by
    rw [Int.natAbs_tdiv]
    exact Nat.div_le_self _ _
  exact bmod_g _ (by omega) (by omega)
theorem xrem8_g {a b : Int} (ha1 : -10000000000000 ≤ a) (ha2 : a ≤ 10000000000000) (hb1 : -10000000000000 ≤ b) (hb2 : b ≤ 10000000000000) : xrem8 a b = a.tmod b := by
  unfold xrem8
  have hd : (a.tdiv b).natAbs ≤ a.natAbs := by
    rw [Int.natAbs_tdiv]
    exact Nat.div_le_self _ _
  have hm : (a.tmod b).natAbs ≤ a.natAbs := by
    rw [Int.natAbs_tmod]
    exact Nat.mod_le _ _
  have e : b * a.tdiv b = a - a.tmod b := by
    have := Int.tmod_def a b
    omega
  have e2 : a.tdiv b * b = a - a.tmod b := by rw [Int.mul_comm]; exact e
  rw [Int64.toInt_sub, Int64.toInt_mul, Int64.toInt_div, i64_g a (by omega) (by omega), i64_g b (by omega) (by omega), bmod_g (a.tdiv b) (by omega) (by omega), e2, bmod_g (a - a.tmod b) (by omega) (by omega), bmod_g _ (by omega) (by omega)]
  omega
theorem xabs8_g {a : Int} (ha1 : -10000000000000 ≤ a) (ha2 : a ≤ 10000000000000) : xabs8 a = (a.natAbs : Int) := by
  unfold xabs8
  by_cases c : 0 < a
  · rw [if_pos c]; omega
  · rw [if_neg c]
    unfold xneg8
    rw [Int64.toInt_neg, i64_g a (by omega) (by omega), bmod_g _ (by omega) (by omega)]
    omega
def qWv (op a b : Int) : Int := if op = 43 then a + b else if op = 45 then a - b else if op = 42 then a * b else if op = 47 then a.tdiv b else a.tmod b
/-- a sign between two values -/
def qWk (op a b : Int) : Option Int := if 2000000000000 ≤ a ∨ 2000000000000 ≤ b ∨ ((op = 47 ∨ op = 37) ∧ b = 0) ∨ 1000000000000 < qWv op a b ∨ qWv op a b < -1000000000000 then none else some (qWv op a b)
section
variable {f : Nat} {G : xG_}
theorem l_267 (a : Int) : g267 f a G = some (if a < 2000000000000 then 0 else 1, G) := by
  unfold g267 g267_13
  by_cases c : a < 2000000000000
  · rw [if_pos c, if_pos c]; rfl
  · rw [if_neg c, if_neg c]; rfl
theorem l_269 {a b : Int} (ha1 : -1000000000000 ≤ a) (ha2 : a < 2000000000000) (hb1 : -1000000000000 ≤ b) (hb2 : b < 2000000000000) : g269 f a b G = some (if 1000000000000 < (a * b).natAbs then 1 else 0, G) := by
  unfold g269 g269_26 g269_27
  by_cases c : a = 0
  · rw [if_pos c, if_pos (Or.inl rfl), c, Int.zero_mul]; rfl
  · have hp : 0 < a.natAbs := by omega
    rw [if_neg c, xabs8_g (by omega) (by omega), xabs8_g (by omega) (by omega), if_neg (by omega), xdiv8_g (by omega) (by omega) (by omega) (by omega)]
    have e1 : Int.tdiv 1000000000000 (a.natAbs : Int) = ((1000000000000 / a.natAbs : Nat) : Int) := rfl
    have e2 : (b.natAbs : Int) ≤ ((1000000000000 / a.natAbs : Nat) : Int) ↔ ¬ 1000000000000 < (a * b).natAbs := by
      rw [Int.natAbs_mul, Int.ofNat_le, Nat.le_div_iff_mul_le hp, Nat.mul_comm]
      omega
    rw [e1]
    by_cases c2 : 1000000000000 < (a * b).natAbs
    · rw [if_neg (fun h => (e2.mp h) c2), if_pos c2]; rfl
    · rw [if_pos (e2.mpr c2), if_neg c2]; rfl
theorem l_268_112 {y : Int} : g268_112 f y G = some (y, xup2 G 0 42 (if 1000000000000 < y ∨ y < -1000000000000 then 1 else 0)) := by
  unfold g268_112 g268_133 g268_138
  by_cases c1 : 1000000000000 < y
  · rw [if_pos c1, if_pos (Or.inl c1), if_pos (Or.inr rfl)]; rfl
  · rw [if_neg c1]
    by_cases c2 : -1000000000000 ≤ y
    · have c3 : ¬ (1000000000000 < y ∨ y < -1000000000000) := by omega
      rw [if_pos c2, if_neg c3, if_pos (Or.inl rfl)]; rfl
    · have c3 : 1000000000000 < y ∨ y < -1000000000000 := by omega
      rw [if_neg c2, if_pos c3, if_pos (Or.inr rfl)]; rfl
theorem l_268 {op a b : Int} (hop : wSg op) (ha : vOk a) (hb : vOk b) : ∃ v, g268 f op a b G = some (v, xup2 G 0 42 (if (qWk op a b).isSome then 0 else 1)) ∧ ∀ w, qWk op a b = some w → v = w := by
  unfold vOk at ha hb
  unfold wSg at hop
  have h0 : ¬ ¬ ((0 : Int), G).1 = 0 := fun k => k rfl
  have h1 : ¬ ((1 : Int), G).1 = 0 := fun h => absurd (show (1 : Int) = 0 from h) (by decide)
  have non : qWk op a b = none → ∀ v, g268 f op a b G = some (v, xup2 G 0 42 1) → ∃ v, g268 f op a b G = some (v, xup2 G 0 42 (if (qWk op a b).isSome then 0 else 1)) ∧ ∀ w, qWk op a b = some w → v = w := fun e v h => ⟨v, by rw [e]; exact h, fun w hw => by rw [e] at hw; cases hw⟩
  by_cases c1 : a < 2000000000000
  · by_cases c2 : b < 2000000000000
    · have fin : ∀ y : Int, y = qWv op a b → ¬ ((op = 47 ∨ op = 37) ∧ b = 0) → g268 f op a b G = g268_112 f y G → ∃ v, g268 f op a b G = some (v, xup2 G 0 42 (if (qWk op a b).isSome then 0 else 1)) ∧ ∀ w, qWk op a b = some w → v = w := by
        intro y hy hz h
        rw [l_268_112] at h
        by_cases c3 : 1000000000000 < y ∨ y < -1000000000000
        · rw [if_pos c3] at h
          exact non (by unfold qWk; rw [if_pos (by rw [← hy]; omega)]) y h
        · rw [if_neg c3] at h
          have e : qWk op a b = some y := by unfold qWk; rw [← hy, if_neg (by omega)]
          refine ⟨y, by rw [e]; exact h, fun w hw => ?_⟩
          rw [e] at hw
          injection hw
      have e34 : g268 f op a b G = if op = 47 ∨ op = 37 then g268_27 f op a b G else g268_34 f op a b G := by
        unfold g268
        rw [l_267, if_pos c1, Option.bind_some, if_neg h0]
        show Option.bind (g267 f b G) _ = _
        rw [l_267, if_pos c2, Option.bind_some, if_neg h0]
        by_cases c4 : op = 47
        · rw [if_pos c4, if_pos (Or.inl c4)]
        · rw [if_neg c4]
          by_cases c5 : op = 37
          · rw [if_neg (fun h => h c5), if_pos (Or.inr c5)]
          · rw [if_pos c5, if_neg (by omega)]
      by_cases c3 : op = 47 ∨ op = 37
      · rw [if_pos c3] at e34
        by_cases c4 : b = 0
        · refine non (by unfold qWk; rw [if_pos (by omega)]) 0 ?_
          rw [e34]
          unfold g268_27
          rw [if_pos c4]
          rfl
        · unfold g268_27 g268_34 g268_56 at e34
          rw [if_neg c4, if_pos (by omega), if_pos (by omega), if_pos (by omega), if_pos (by omega), if_neg c4, if_neg c4] at e34
          rcases c3 with c3 | c3
          · rw [if_neg (fun h => h c3), xdiv8_g (by omega) (by omega) (by omega) (by omega)] at e34
            exact fin _ (by unfold qWv; rw [if_neg (by omega), if_neg (by omega), if_neg (by omega), if_pos c3]) (by omega) e34
          · rw [if_pos (by omega), xrem8_g (by omega) (by omega) (by omega) (by omega)] at e34
            exact fin _ (by unfold qWv; rw [if_neg (by omega), if_neg (by omega), if_neg (by omega), if_neg (by omega)]) (by omega) e34
      · rw [if_neg c3] at e34
        by_cases c4 : op = 42
        · unfold g268_34 g268_56 at e34
          have e2 : qWv op a b = a * b := by unfold qWv; rw [if_neg (by omega), if_neg (by omega), if_pos c4]
          rw [if_neg (fun h => h c4), l_269 (by omega) c1 (by omega) c2, Option.bind_some] at e34
          by_cases c5 : 1000000000000 < (a * b).natAbs
          · rw [if_pos c5, if_neg h1] at e34
            refine non (by unfold qWk; rw [e2, if_pos (by omega)]) 0 ?_
            rw [e34]
            rfl
          · rw [if_neg c5] at e34
            have e35 : g268 f op a b G = g268_112 f (xwl (a * b)) G := by
              rw [e34, if_pos rfl, if_pos (by omega), if_pos (by omega), if_neg (fun h => h c4)]
            rw [xwl_g _ (by omega) (by omega)] at e35
            exact fin _ e2.symm (by omega) e35
        · unfold g268_34 g268_56 at e34
          rw [if_pos c4] at e34
          by_cases c5 : op = 43
          · rw [if_neg (fun h => h c5), xwl_g _ (by omega) (by omega)] at e34
            exact fin _ (by unfold qWv; rw [if_pos c5]) (by omega) e34
          · rw [if_pos c5, if_neg (by omega), xwl_g _ (by omega) (by omega)] at e34
            exact fin _ (by unfold qWv; rw [if_neg c5, if_pos (by omega)]) (by omega) e34
    · refine non (by unfold qWk; rw [if_pos (by omega)]) 0 ?_
      unfold g268
      rw [l_267, if_pos c1, Option.bind_some, if_neg h0]
      show Option.bind (g267 f b G) _ = _
      rw [l_267, if_neg c2, Option.bind_some, if_pos h1]
      rfl
  · refine non (by unfold qWk; rw [if_pos (by omega)]) 0 ?_
    unfold g268
    rw [l_267, if_neg c1, Option.bind_some, if_pos h1]
    rfl
theorem qWk_ok {op a b w : Int} (h : qWk op a b = some w) : vOk w := by
  unfold qWk at h
  by_cases c : 2000000000000 ≤ a ∨ 2000000000000 ≤ b ∨ ((op = 47 ∨ op = 37) ∧ b = 0) ∨ 1000000000000 < qWv op a b ∨ qWv op a b < -1000000000000
  · rw [if_pos c] at h; cases h
  · rw [if_neg c] at h
    injection h with h
    unfold vOk
    omega
end
end
section
/-! EXPRESSIONS: codes worked over values of VARIABLES -/
def qEs (v : Nat → Int) : pCd → List Int → Option (List Int)
  | [], st => some st
  | x :: q, st => if x.1 = 3 then (match st with
      | b :: a :: st => (qWk x.2 a b).bind fun w => qEs v q (w :: st)
      | _ => none) else qEs v q ((if x.1 = 1 then x.2 else v x.2.toNat) :: st)
/-- what an EXPRESSION is worth; none if it has no value -/
def qEv (v : Nat → Int) (Q : pCd) : Option Int := (qEs v Q []).bind List.head?
def rSk (G : xG_) (st : List Int) : Prop := ∀ k, k < st.length → G 111 (st.length - 1 - k) = st.getD k 0
def xfu (G G' : xG_) : Prop := ∀ o j, ¬ (o = 0 ∧ j = 42) → o ≠ 111 → G' o j = G o j
/-- values of VARIABLES, as far as a mask tells -/
def rVl (G : xG_) (m : Nat) (v : Nat → Int) : Prop := ∀ k, m.testBit k = true → k < 8 ∧ G 110 k = v k ∧ vOk (v k)
theorem xl111 : ((xl_t 111).2.2 : Int) = 6200 := by decide +kernel
theorem xwr_v8 {a : Int} (h1 : 0 ≤ a) (h2 : a < 8) : xwr a = a := xwr_g _ (by omega) (by omega)
theorem two_up {l : List Int} (h : 2 ≤ l.length) : ∃ b a t, l = b :: a :: t := by
  cases l with
  | nil => exact absurd h (by decide)
  | cons b l =>
    cases l with
    | nil => exact absurd h (by show ¬ 2 ≤ 1; decide)
    | cons a t => exact ⟨b, a, t, rfl⟩
section
variable {f nv a : Nat} {v : Nat → Int}
theorem l_266_10 {Q : pCd} (hv : nv ≤ 8) (ha : a + Q.length ≤ 6200) : ∀ (Qr : pCd) (i fu : Nat) (G : xG_) (st : List Int), Q.drop i = Qr → i ≤ Q.length → Qr.length < fu → rCo G 2 a Q → wC nv Qr → wSt st.length Qr = some 1 → st.length ≤ i → rVl G (qVm Qr) v → G 0 42 = 0 → rSk G st → (∀ x ∈ st, vOk x) →
    ∃ G' w, g266_10 f fu ((a + Q.length : Nat) : Int) (st.length : Int) ((a + i : Nat) : Int) G = some (w, G') ∧ xfu G G' ∧ ((∃ x, qEs v Qr st = some [x] ∧ w = x ∧ vOk x ∧ G' 0 42 = 0) ∨ qEs v Qr st = none ∧ w = 0 ∧ G' 0 42 = 1) := by
  intro Qr
  induction Qr with
  | nil =>
    intro i fu G st h1 h2 h3 h4 h5 h6 h7 h8 h9 h10 h11
    obtain ⟨fu, rfl⟩ : ∃ t, fu = t + 1 := ⟨fu - 1, by have : 0 < fu := h3; omega⟩
    have hi : i = Q.length := by
      have : (Q.drop i).length = 0 := by rw [h1]; rfl
      rw [List.length_drop] at this
      omega
    have hst : st.length = 1 := by
      have : some st.length = some 1 := h6
      injection this
    obtain ⟨x, rfl⟩ : ∃ x, st = [x] := List.length_eq_one_iff.mp hst
    refine ⟨G, x, ?_, fun _ _ _ _ => rfl, .inl ⟨x, rfl, rfl, h11 x List.mem_cons_self, h9⟩⟩
    have e : G 111 0 = x := h10 0 Nat.zero_lt_one
    show g266_10b (g266_10 f fu) f _ _ _ _ = _
    unfold g266_10b g266_148 g266_165
    rw [if_pos (by omega), if_pos h9, if_pos (by decide)]
    show some (G 111 0, G) = _
    rw [e]
  | cons x q ih =>
    intro i fu G st h1 h2 h3 h4 h5 h6 h7 h8 h9 h10 h11
    have h3' : q.length + 1 < fu := h3
    obtain ⟨fu, rfl⟩ : ∃ t, fu = t + 1 := ⟨fu - 1, by omega⟩
    have hi : i < Q.length := by
      have : (Q.drop i).length = (x :: q).length := by rw [h1]
      rw [List.length_drop, List.length_cons] at this
      omega
    have hx : Q.getD i (0, 0) = x ∧ Q.drop (i + 1) = q := by
      rw [List.drop_eq_getElem_cons hi] at h1
      injection h1 with e1 e2
      exact ⟨by rw [getD_e hi]; exact e1, e2⟩
    obtain ⟨c1, c2⟩ := h4 i hi
    rw [hx.1] at c1 c2
    have c1' : G 35 (a + i) = x.1 := c1
    have c2' : G 36 (a + i) = x.2 := c2
    have hx1 := h5 x List.mem_cons_self
    have hq : wC nv q := fun y hy => h5 y (List.mem_cons_of_mem _ hy)
    have ei : xwr (((a + i : Nat) : Int) + 1) = ((a + (i + 1) : Nat) : Int) := by rw [xwr_g _ (by omega) (by omega)]; omega
    have hvq : rVl G (qVm q) v := fun k hk => h8 k (by
      show ((if x.1 = 2 then 2 ^ x.2.toNat else 0) ||| qVm q).testBit k = true
      rw [Nat.testBit_or, hk, Bool.or_true])
    have head : ∀ Z : Option (Int × xG_), g266_10b (g266_10 f fu) f ((a + Q.length : Nat) : Int) (st.length : Int) ((a + i : Nat) : Int) G = Z → g266_10 f (fu + 1) ((a + Q.length : Nat) : Int) (st.length : Int) ((a + i : Nat) : Int) G = Z := fun Z h => h
    by_cases cs : x.1 = 3
    · have hw : wSg x.2 := by
        rcases hx1 with z | z | z
        · omega
        · omega
        · exact z.2
      have hw2 : xwr x.2 = x.2 := xwr_g _ (by unfold wSg at hw; omega) (by unfold wSg at hw; omega)
      rw [wSt_c, if_pos cs] at h6
      by_cases c3 : 2 ≤ st.length
      · rw [if_pos c3] at h6
        obtain ⟨b', a', st', rfl⟩ : ∃ b' a' st', st = b' :: a' :: st' := two_up c3
        have hl : (b' :: a' :: st').length = st'.length + 2 := rfl
        have g1 : G 111 (st'.length + 1) = b' := by
          have := h10 0 (by rw [hl]; omega)
          rw [hl] at this
          exact this
        have g2 : G 111 st'.length = a' := by
          have := h10 1 (by rw [hl]; omega)
          rw [hl] at this
          exact this
        obtain ⟨w, k1, k2⟩ := l_268 (f := f) (G := G) hw (h11 a' (List.mem_cons_of_mem _ List.mem_cons_self)) (h11 b' List.mem_cons_self)
        have e1 : xwr (((b' :: a' :: st').length : Int) - 1) = ((st'.length + 1 : Nat) : Int) := by rw [hl, xwr_g _ (by omega) (by omega)]; omega
        have e2 : xwr (((b' :: a' :: st').length : Int) - 2) = (st'.length : Int) := by rw [hl, xwr_g _ (by omega) (by omega)]; omega
        have e3 : xwr (((b' :: a' :: st').length : Int) + -1) = ((st'.length + 1 : Nat) : Int) := by rw [hl, xwr_g _ (by omega) (by omega)]; omega
        have e4 : xwr (((st'.length + 1 : Nat) : Int) - 1) = (st'.length : Int) := by rw [xwr_g _ (by omega) (by omega)]; omega
        have hlen : st'.length < 6200 := by rw [hl] at h7; omega
        have step : g266_10 f (fu + 1) ((a + Q.length : Nat) : Int) ((b' :: a' :: st').length : Int) ((a + i : Nat) : Int) G = g266_10 f fu ((a + Q.length : Nat) : Int) ((st'.length + 1 : Nat) : Int) ((a + (i + 1) : Nat) : Int) (xup2 (xup2 G 0 42 (if (qWk x.2 a' b').isSome then 0 else 1)) 111 st'.length w) := by
          refine head _ ?_
          unfold g266_10b g266_142
          rw [if_neg (by omega), if_neg (fun z => z h9), if_pos (by omega), Int.toNat_natCast]
          show (if G 35 (a + i) = 3 then _ else _) = _
          rw [c1', if_pos cs, e1, e2, e3, if_pos (by omega), if_pos (by omega), if_pos (by omega)]
          show Option.bind (g268 f (xwr (G 36 (a + i))) _ _ G) _ = _
          rw [c2', hw2, Int.toNat_natCast, Int.toNat_natCast, g1, g2, k1, Option.bind_some, e4, if_pos (by omega), Int.toNat_natCast, Option.bind_some, ei]
        have hes : qEs v (x :: q) (b' :: a' :: st') = (qWk x.2 a' b').bind fun w => qEs v q (w :: st') := by
          show (if x.1 = 3 then _ else _) = _
          rw [if_pos cs]
        cases hk : qWk x.2 a' b' with
        | none =>
          rw [hk] at step hes
          refine ⟨xup2 (xup2 G 0 42 1) 111 st'.length w, 0, ?_, ?_, .inr ⟨hes, rfl, ?_⟩⟩
          · rw [step]
            obtain ⟨fu, rfl⟩ : ∃ t, fu = t + 1 := ⟨fu - 1, by omega⟩
            show g266_10b (g266_10 f fu) f _ _ _ _ = _
            have e42 : xup2 (xup2 G 0 42 (if (none : Option Int).isSome = true then 0 else 1)) 111 st'.length w 0 42 = 1 := by
              rw [xup2_n (by omega), xup2_s]
              rfl
            have en : g266_148 f (xup2 (xup2 G 0 42 (if (none : Option Int).isSome = true then 0 else 1)) 111 st'.length w) = some (0, xup2 (xup2 G 0 42 1) 111 st'.length w) := by
              unfold g266_148 g266_165
              rw [e42, if_neg (by decide)]
              rfl
            unfold g266_10b
            rw [e42, en, if_pos (by decide : ¬ (1 : Int) = 0)]
            exact ite_self _
          · intro o j z1 z2
            rw [xup2_n (fun z => z2 z.1), xup2_n z1]
          · rw [xup2_n (by omega), xup2_s]
        | some w' =>
          have := k2 w' hk
          subst this
          rw [hk] at step hes
          have e0 : (if (some w : Option Int).isSome = true then (0 : Int) else 1) = 0 := rfl
          rw [e0] at step
          have fr : ∀ o j, ¬ (o = 111 ∧ j = st'.length) → xup2 (xup2 G 0 42 0) 111 st'.length w o j = G o j := fun o j z => by
            rw [xup2_n z]
            by_cases c : o = 0 ∧ j = 42
            · rw [c.1, c.2, xup2_s, h9]
            · exact xup2_n c
          obtain ⟨G', w1, m1, m2, m3⟩ := ih (i + 1) fu (xup2 (xup2 G 0 42 0) 111 st'.length w) (w :: st') hx.2 (by omega) (by omega) (fun j hj => by rw [fr _ _ (by omega), fr _ _ (by omega)]; exact h4 j hj) hq (by have : (b' :: a' :: st').length - 1 = (w :: st').length := rfl; rw [this] at h6; exact h6) (by show st'.length + 1 ≤ i + 1; rw [hl] at h7; omega) (fun k hk => by rw [fr _ _ (by omega)]; exact hvq k hk) (by rw [fr _ _ (by omega)]; exact h9) (fun k hk => by
              have hk' : k < st'.length + 1 := hk
              show xup2 _ _ _ _ 111 (st'.length + 1 - 1 - k) = _
              by_cases ck : k = 0
              · rw [ck]
                show xup2 _ _ _ _ 111 st'.length = _
                rw [xup2_s]
                rfl
              · obtain ⟨k, rfl⟩ : ∃ t, k = t + 1 := ⟨k - 1, by omega⟩
                have := h10 (k + 2) (by rw [hl]; omega)
                rw [hl] at this
                rw [fr _ _ (by omega), show st'.length + 1 - 1 - (k + 1) = st'.length + 2 - 1 - (k + 2) by omega, this]
                rfl) (fun y hy => by
              rcases List.mem_cons.mp hy with z | z
              · rw [z]; exact qWk_ok hk
              · exact h11 y (List.mem_cons_of_mem _ (List.mem_cons_of_mem _ z)))
          refine ⟨G', w1, by rw [step]; exact m1, fun o j z1 z2 => by rw [m2 o j z1 z2, fr o j (fun z => z2 z.1)], ?_⟩
          rw [hes]
          exact m3
      · rw [if_neg c3] at h6
        cases h6
    · rw [wSt_c, if_neg cs] at h6
      have push : ∃ y, (if x.1 = 1 then x.2 else v x.2.toNat) = y ∧ vOk y ∧ g266_10 f (fu + 1) ((a + Q.length : Nat) : Int) (st.length : Int) ((a + i : Nat) : Int) G = g266_10 f fu ((a + Q.length : Nat) : Int) ((st.length + 1 : Nat) : Int) ((a + (i + 1) : Nat) : Int) (xup2 G 111 st.length y) := by
        have e1 : xwr ((st.length : Int) + 1) = ((st.length + 1 : Nat) : Int) := by rw [xwr_g _ (by omega) (by omega)]; omega
        by_cases c4 : x.1 = 1
        · have hvx : vOk x.2 := by
            rcases hx1 with z | z | z
            · exact z.2
            · omega
            · omega
          refine ⟨x.2, by rw [if_pos c4], hvx, ?_⟩
          refine head _ ?_
          unfold g266_10b g266_85 g266_142
          rw [if_neg (by omega), if_neg (fun z => z h9), if_pos (by omega), Int.toNat_natCast]
          show (if G 35 (a + i) = 3 then _ else (if _ then (if ¬ G 35 (a + i) = 1 then _ else (if _ then (if 0 ≤ (st.length : Int) ∧ (st.length : Int) < ((xl_t 111).2.2 : Int) then Option.bind (some (xup2 G 111 _ (G 36 (a + i)))) _ else _) else _)) else _)) = _
          rw [c1', c2', if_neg cs, if_pos (by omega), if_neg (fun z => z c4), if_pos (by omega), xl111, if_pos (by omega), Int.toNat_natCast, Option.bind_some, e1, ei]
        · have hvx : x.1 = 2 ∧ 0 ≤ x.2 ∧ x.2 < nv := by
            rcases hx1 with z | z | z
            · omega
            · exact z
            · omega
          obtain ⟨z1, z2, z3⟩ := hvx
          obtain ⟨u1, u2, u3⟩ := h8 x.2.toNat (by
            show ((if x.1 = 2 then 2 ^ x.2.toNat else 0) ||| qVm q).testBit x.2.toNat = true
            rw [if_pos z1, Nat.testBit_or, Nat.testBit_two_pow_self, Bool.true_or])
          refine ⟨v x.2.toNat, by rw [if_neg c4], u3, ?_⟩
          refine head _ ?_
          unfold g266_10b g266_85 g266_142
          rw [if_neg (by omega), if_neg (fun z => z h9), if_pos (by omega), Int.toNat_natCast]
          show (if G 35 (a + i) = 3 then _ else (if _ then (if ¬ G 35 (a + i) = 1 then (if _ then (if 0 ≤ xwr (G 36 (a + i)) ∧ xwr (G 36 (a + i)) < 8 then (if 0 ≤ (st.length : Int) ∧ (st.length : Int) < ((xl_t 111).2.2 : Int) then Option.bind (some (xup2 G 111 _ (G 110 (xwr (G 36 (a + i))).toNat))) _ else _) else _) else _) else _) else _)) = _
          rw [c1', c2', if_neg cs, if_pos (by omega), if_pos c4, if_pos (by omega), xwr_v8 z2 (by omega), if_pos (by omega), xl111, if_pos (by omega), Int.toNat_natCast, u2, Option.bind_some, e1, ei]
      obtain ⟨y, hy, hvy, step⟩ := push
      have hes : qEs v (x :: q) st = qEs v q (y :: st) := by
        show (if x.1 = 3 then _ else _) = _
        rw [if_neg cs, hy]
      have fr : ∀ o j, ¬ (o = 111 ∧ j = st.length) → xup2 G 111 st.length y o j = G o j := fun o j z => xup2_n z
      obtain ⟨G', w1, m1, m2, m3⟩ := ih (i + 1) fu (xup2 G 111 st.length y) (y :: st) hx.2 (by omega) (by omega) (fun j hj => by rw [fr _ _ (by omega), fr _ _ (by omega)]; exact h4 j hj) hq h6 (by show st.length + 1 ≤ i + 1; omega) (fun k hk => by rw [fr _ _ (by omega)]; exact hvq k hk) (by rw [fr _ _ (by omega)]; exact h9) (fun k hk => by
          have hk' : k < st.length + 1 := hk
          show xup2 _ _ _ _ 111 (st.length + 1 - 1 - k) = _
          by_cases ck : k = 0
          · rw [ck]
            show xup2 _ _ _ _ 111 st.length = _
            rw [xup2_s]
            rfl
          · obtain ⟨k, rfl⟩ : ∃ t, k = t + 1 := ⟨k - 1, by omega⟩
            have := h10 k (by omega)
            rw [fr _ _ (by omega), show st.length + 1 - 1 - (k + 1) = st.length - 1 - k by omega, this]
            rfl) (fun z hz => by
          rcases List.mem_cons.mp hz with q | q
          · rw [q]; exact hvy
          · exact h11 z q)
      refine ⟨G', w1, by rw [step]; exact m1, fun o j z1 z2 => by rw [m2 o j z1 z2, fr o j (fun z => z2 z.1)], ?_⟩
      rw [hes]
      exact m3
/-- worth -/
theorem l_266 {Q : pCd} {G : xG_} (hf : 6300 < f) (hv : nv ≤ 8) (ha : a + Q.length ≤ 6200) (hc : rCo G 2 a Q) (hw : wEx nv Q) (hl : rVl G (qVm Q) v) :
    ∃ G' w, g266 f (a : Int) ((a + Q.length : Nat) : Int) G = some (w, G') ∧ xfu G G' ∧ ((qEv v Q = some w ∧ vOk w ∧ G' 0 42 = 0) ∨ qEv v Q = none ∧ w = 0 ∧ G' 0 42 = 1) := by
  obtain ⟨G', w, k1, k2, k3⟩ := l_266_10 (f := f) (v := v) hv ha Q 0 f (xup2 G 0 42 0) [] rfl (by omega) (by omega) (fun j hj => by rw [xup2_n (by omega), xup2_n (by omega)]; exact hc j hj) hw.1 hw.2 (Nat.le_refl _) (fun k hk => by rw [xup2_n (by omega)]; exact hl k hk) (xup2_s _ _ _ _) (fun k hk => absurd hk (Nat.not_lt_zero _)) (fun x hx => absurd hx (by simp))
  refine ⟨G', w, ?_, fun o j z1 z2 => by rw [k2 o j z1 z2, xup2_n z1], ?_⟩
  · unfold g266
    rw [Option.bind_some]
    exact k1
  · unfold qEv
    rcases k3 with ⟨x, m1, m2, m3, m4⟩ | ⟨m1, m2, m3⟩
    · rw [m1, m2]
      exact .inl ⟨rfl, m3, m4⟩
    · rw [m1]
      exact .inr ⟨rfl, m2, m3⟩
end
end
section
/-! WAYS of the reference: whether a row fits an ATOM -/
def isB (b : Int) (P : Prop) : Prop := b = 1 ∧ P ∨ b = 0 ∧ ¬ P
theorem isB.iff {b : Int} {P Q : Prop} (h : isB b P) (e : P ↔ Q) : isB b Q := by
  rcases h with ⟨a, c⟩ | ⟨a, c⟩
  · exact .inl ⟨a, e.mp c⟩
  · exact .inr ⟨a, fun q => c (e.mpr q)⟩
/-- the TERM at k lets the row xs through, with the VARIABLES of m having values vl -/
def pF1 (m : Nat) (vl : Nat → Int) (T : pCd) (xs : List Int) (k : Nat) : Prop :=
  ((T.getD k (0, 0)).1 = 3 → (T.getD k (0, 0)).2 = xs.getD k 0) ∧ ((T.getD k (0, 0)).1 = 1 → m.testBit (T.getD k (0, 0)).2.toNat = true → vl (T.getD k (0, 0)).2.toNat = xs.getD k 0) ∧
  ((T.getD k (0, 0)).1 = 1 → ∀ j, j < k → (T.getD j (0, 0)).1 = 1 → (T.getD j (0, 0)).2 = (T.getD k (0, 0)).2 → xs.getD j 0 = xs.getD k 0)
def pFit (m : Nat) (vl : Nat → Int) (T : pCd) (xs : List Int) : Prop := ∀ k, k < T.length → pF1 m vl T xs k
/-- a literal's TERMS at x of the program at 2 -/
def rTm (G : xG_) (x : Nat) (T : pCd) : Prop := x < 200 ∧ G 29 x = (T.length : Int) ∧ T.length ≤ 4 ∧ ∀ k, k < T.length → G 33 (4 * x + k) = (T.getD k (0, 0)).1 ∧ ((T.getD k (0, 0)).1 ≠ 2 → G 34 (4 * x + k) = (T.getD k (0, 0)).2)
section
variable {f p n x i m nv : Nat} {G : xG_} {R : List pRw} {T : pCd}
theorem l_270 {v : Nat} (hm : m < 256) (hv : v < 8) (h : G 0 37 = (m : Int)) : g270 f (v : Int) G = some (if m.testBit v = true then 1 else 0, G) := by
  unfold g270 g270_17
  rw [h]
  by_cases c : m.testBit v = true
  · rw [if_neg (fun z => z ((xbit (by omega) (by omega)).mpr c)), if_pos (Or.inr rfl), if_pos c]
  · rw [if_pos (fun z => c ((xbit (by omega) (by omega)).mp z)), if_pos (Or.inl rfl), if_neg c]
theorem l_272_132 {r3 : Int → Int → Int → Int → xG_ → Option (Int × xG_)} {k : Nat} {z : Int} (hp : p < 16) (hi : i < 520) (hT : rTm G x T) (hw : ∀ y ∈ T, wT1 nv y) (hk : k < T.length) (hr : ∀ j, j < 4 → G 107 ((p * 520 + i) * 4 + j) = (R.getD i dRw).1.getD j 0) (hz : z = (R.getD i dRw).1.getD k 0) : ∀ (d j fu : Nat), j + d = k → d < fu →
    ((∀ j', j ≤ j' → j' < k → (T.getD k (0, 0)).1 = 1 → (T.getD j' (0, 0)).1 = 1 → (T.getD j' (0, 0)).2 = (T.getD k (0, 0)).2 → (R.getD i dRw).1.getD j' 0 = z) → g272_132 r3 f fu (x : Int) (p : Int) (i : Int) (k : Int) ((4 * x + k : Nat) : Int) z (j : Int) G = r3 (x : Int) (p : Int) (i : Int) ((k + 1 : Nat) : Int) G) ∧
    ((∃ j', j ≤ j' ∧ j' < k ∧ (T.getD k (0, 0)).1 = 1 ∧ (T.getD j' (0, 0)).1 = 1 ∧ (T.getD j' (0, 0)).2 = (T.getD k (0, 0)).2 ∧ (R.getD i dRw).1.getD j' 0 ≠ z) → g272_132 r3 f fu (x : Int) (p : Int) (i : Int) (k : Int) ((4 * x + k : Nat) : Int) z (j : Int) G = some (0, G)) := by
  obtain ⟨t1, t2, t3, t4⟩ := hT
  have e3 : xwr ((k : Int) + 1) = ((k + 1 : Nat) : Int) := by rw [xwr_g _ (by omega) (by omega)]; omega
  intro d
  induction d with
  | zero =>
    intro j fu h1 h2
    obtain ⟨fu, rfl⟩ : ∃ t, fu = t + 1 := ⟨fu - 1, by omega⟩
    refine ⟨fun _ => ?_, fun ⟨j', q1, q2, _⟩ => by omega⟩
    show g272_132b r3 (g272_132 r3 f fu) f _ _ _ _ _ _ _ _ = _
    unfold g272_132b g272_227
    rw [if_pos (by omega), e3]
  | succ d ih =>
    intro j fu h1 h2
    obtain ⟨fu, rfl⟩ : ∃ t, fu = t + 1 := ⟨fu - 1, by omega⟩
    obtain ⟨a1, a2⟩ := t4 k hk
    obtain ⟨b1, b2⟩ := t4 j (by omega)
    obtain ⟨i1, i2⟩ := ih (j + 1) fu (by omega) (by omega)
    have e1 : xwr (xwr ((x : Int) * 4) + (j : Int)) = ((4 * x + j : Nat) : Int) := by
      rw [xwr_g ((x : Int) * 4) (by omega) (by omega), xwr_g _ (by omega) (by omega)]; omega
    have e2 : xwr ((((p * 520 + i) * 4 : Nat) : Int) + (j : Int)) = (((p * 520 + i) * 4 + j : Nat) : Int) := by rw [xwr_g _ (by omega) (by omega)]; omega
    have e4 : xwr ((j : Int) + 1) = ((j + 1 : Nat) : Int) := by rw [xwr_g _ (by omega) (by omega)]; omega
    have step : g272_132 r3 f (fu + 1) (x : Int) (p : Int) (i : Int) (k : Int) ((4 * x + k : Nat) : Int) z (j : Int) G = if ¬ (T.getD k (0, 0)).1 = 1 then r3 (x : Int) (p : Int) (i : Int) ((k + 1 : Nat) : Int) G else if ¬ (T.getD j (0, 0)).1 = 1 then g272_132 r3 f fu (x : Int) (p : Int) (i : Int) (k : Int) ((4 * x + k : Nat) : Int) z ((j + 1 : Nat) : Int) G else if ¬ (T.getD j (0, 0)).2 = (T.getD k (0, 0)).2 then g272_132 r3 f fu (x : Int) (p : Int) (i : Int) (k : Int) ((4 * x + k : Nat) : Int) z ((j + 1 : Nat) : Int) G else if (R.getD i dRw).1.getD j 0 = z then g272_132 r3 f fu (x : Int) (p : Int) (i : Int) (k : Int) ((4 * x + k : Nat) : Int) z ((j + 1 : Nat) : Int) G else some (0, G) := by
      show g272_132b r3 (g272_132 r3 f fu) f _ _ _ _ _ _ _ _ = _
      unfold g272_132b g272_227 g272_221
      rw [if_neg (by omega), if_pos (by omega), e1, e3, e4, Int.toNat_natCast, Int.toNat_natCast]
      show (if ¬ G 33 (4 * x + k) = 1 then _ else (if _ then (if ¬ G 33 (4 * x + j) = 1 then _ else (if _ then (if _ then (if ¬ G 34 (4 * x + j) = G 34 (4 * x + k) then _ else _) else _) else _)) else _)) = _
      rw [a1, b1]
      by_cases c1 : (T.getD k (0, 0)).1 = 1
      · have n1 : ¬ ¬ (T.getD k (0, 0)).1 = 1 := fun q => q c1
        rw [if_neg n1, if_neg n1, if_pos (by omega)]
        by_cases c2 : (T.getD j (0, 0)).1 = 1
        · have n2 : ¬ ¬ (T.getD j (0, 0)).1 = 1 := fun q => q c2
          rw [if_neg n2, if_neg n2, if_pos (by omega), if_pos (by omega), a2 (by omega), b2 (by omega)]
          by_cases c3 : (T.getD j (0, 0)).2 = (T.getD k (0, 0)).2
          · have n3 : ¬ ¬ (T.getD j (0, 0)).2 = (T.getD k (0, 0)).2 := fun q => q c3
            rw [if_neg n3, if_neg n3, l_261 hp (by omega), Option.bind_some]
            simp only [e2]
            rw [if_pos (by omega), Int.toNat_natCast, hr j (by omega)]
          · rw [if_pos c3, if_pos c3]
        · rw [if_pos c2, if_pos c2]
      · rw [if_pos c1, if_pos c1]
    rw [step]
    constructor
    · intro q
      by_cases c1 : (T.getD k (0, 0)).1 = 1
      · rw [if_neg (fun q => q c1)]
        have rest := i1 (fun j' y1 y2 y3 y4 y5 => q j' (by omega) y2 y3 y4 y5)
        by_cases c2 : (T.getD j (0, 0)).1 = 1
        · rw [if_neg (fun q => q c2)]
          by_cases c3 : (T.getD j (0, 0)).2 = (T.getD k (0, 0)).2
          · rw [if_neg (fun q => q c3), if_pos (q j (by omega) (by omega) c1 c2 c3)]
            exact rest
          · rw [if_pos c3]
            exact rest
        · rw [if_pos c2]
          exact rest
      · rw [if_pos c1]
    · rintro ⟨j', q1, q2, q3, q4, q5, q6⟩
      rw [if_neg (fun q => q q3)]
      by_cases cj : j' = j
      · rw [cj] at q4 q5 q6
        rw [if_neg (fun q => q q4), if_neg (fun q => q q5), if_neg q6]
      · have rest := i2 ⟨j', by omega, q2, q3, q4, q5, q6⟩
        by_cases c2 : (T.getD j (0, 0)).1 = 1
        · rw [if_neg (fun q => q c2)]
          by_cases c3 : (T.getD j (0, 0)).2 = (T.getD k (0, 0)).2
          · rw [if_neg (fun q => q c3)]
            by_cases c4 : (R.getD i dRw).1.getD j 0 = z
            · rw [if_pos c4]
              exact rest
            · rw [if_neg c4]
          · rw [if_pos c3]
            exact rest
        · rw [if_pos c2]
          exact rest
/-- fits -/
theorem l_272 (hf : 20 < f) (hp : p < 16) (hT : rTm G x T) (hw : ∀ y ∈ T, wT1 nv y) (hnv : nv ≤ 8) (hR : rRw G p n R) (hi : i < R.length) (hm : m < 256) (h37 : G 0 37 = (m : Int)) : ∃ b, g272 f (x : Int) (p : Int) (i : Int) G = some (b, G) ∧ isB b (pFit m (G 110) T (R.getD i dRw).1) := by
  obtain ⟨t1, t2, t3, t4⟩ := hT
  have hl := hR.2.1
  obtain ⟨r1, r2, r3⟩ := hR.2.2 i hi
  have loop : ∀ (d k fu : Nat), k + d = T.length → d < fu → ∃ b, g272_3 f fu (x : Int) (p : Int) (i : Int) (k : Int) G = some (b, G) ∧ isB b (∀ j, k ≤ j → j < T.length → pF1 m (G 110) T (R.getD i dRw).1 j) := by
    intro d
    induction d with
    | zero =>
      intro k fu h1 h2
      obtain ⟨fu, rfl⟩ : ∃ t, fu = t + 1 := ⟨fu - 1, by omega⟩
      refine ⟨1, ?_, .inl ⟨rfl, fun j hj hj2 => by omega⟩⟩
      show g272_3b (g272_3 f fu) f _ _ _ _ _ = _
      unfold g272_3b
      rw [if_pos (by omega), Int.toNat_natCast]
      show (if G 29 x ≤ (k : Int) then _ else _) = _
      rw [t2, if_pos (by omega)]
    | succ d ih =>
      intro k fu h1 h2
      obtain ⟨fu, rfl⟩ : ∃ t, fu = t + 1 := ⟨fu - 1, by omega⟩
      have hk : k < T.length := by omega
      obtain ⟨a1, a2⟩ := t4 k hk
      have hwk : wT1 nv (T.getD k (0, 0)) := hw _ (by rw [getD_e hk]; exact List.getElem_mem hk)
      have e1 : xwr (xwr ((x : Int) * 4) + (k : Int)) = ((4 * x + k : Nat) : Int) := by
        rw [xwr_g ((x : Int) * 4) (by omega) (by omega), xwr_g _ (by omega) (by omega)]; omega
      have e2 : xwr ((((p * 520 + i) * 4 : Nat) : Int) + (k : Int)) = (((p * 520 + i) * 4 + k : Nat) : Int) := by rw [xwr_g _ (by omega) (by omega)]; omega
      have step : g272_3 f (fu + 1) (x : Int) (p : Int) (i : Int) (k : Int) G = if ¬ (T.getD k (0, 0)).1 = 3 then g272_73 (g272_3 f fu) f (x : Int) (p : Int) (i : Int) (k : Int) ((4 * x + k : Nat) : Int) ((R.getD i dRw).1.getD k 0) G else if (T.getD k (0, 0)).2 = (R.getD i dRw).1.getD k 0 then g272_73 (g272_3 f fu) f (x : Int) (p : Int) (i : Int) (k : Int) ((4 * x + k : Nat) : Int) ((R.getD i dRw).1.getD k 0) G else some (0, G) := by
        show g272_3b (g272_3 f fu) f _ _ _ _ _ = _
        unfold g272_3b
        rw [if_pos (by omega), Int.toNat_natCast]
        show (if G 29 x ≤ (k : Int) then _ else _) = _
        rw [t2, if_neg (by omega), l_261 hp (by omega), Option.bind_some]
        simp only [e1, e2]
        rw [if_pos (by omega), if_pos (by omega), Int.toNat_natCast, Int.toNat_natCast, r2 k (by omega)]
        show (if ¬ G 33 (4 * x + k) = 3 then _ else (if _ then (if G 34 (4 * x + k) = _ then _ else _) else _)) = _
        rw [a1]
        by_cases c1 : (T.getD k (0, 0)).1 = 3
        · have n1 : ¬ ¬ (T.getD k (0, 0)).1 = 3 := fun q => q c1
          rw [if_neg n1, if_neg n1, if_pos (by omega), a2 (by omega)]
        · rw [if_pos c1, if_pos c1]
      obtain ⟨b, u1, u2⟩ := ih (k + 1) fu (by omega) (by omega)
      have good : pF1 m (G 110) T (R.getD i dRw).1 k → isB b (∀ j, k ≤ j → j < T.length → pF1 m (G 110) T (R.getD i dRw).1 j) := fun hk1 => u2.iff ⟨fun q j y1 y2 => by
        by_cases cj : j = k
        · rw [cj]; exact hk1
        · exact q j (by omega) y2, fun q j y1 y2 => q j (by omega) y2⟩
      have bad : ¬ pF1 m (G 110) T (R.getD i dRw).1 k → isB 0 (∀ j, k ≤ j → j < T.length → pF1 m (G 110) T (R.getD i dRw).1 j) := fun q => .inr ⟨rfl, fun z => q (z k (Nat.le_refl _) hk)⟩
      obtain ⟨i1, i2⟩ := l_272_132 (f := f) (r3 := g272_3 f fu) (z := (R.getD i dRw).1.getD k 0) hp (by omega : i < 520) ⟨t1, t2, t3, t4⟩ hw hk r2 rfl k 0 f (by omega) (by omega)
      have e129 : ∃ b', g272_129 (g272_3 f fu) f (x : Int) (p : Int) (i : Int) (k : Int) ((4 * x + k : Nat) : Int) ((R.getD i dRw).1.getD k 0) G = some (b', G) ∧ (((T.getD k (0, 0)).1 = 3 → (T.getD k (0, 0)).2 = (R.getD i dRw).1.getD k 0) → ((T.getD k (0, 0)).1 = 1 → m.testBit (T.getD k (0, 0)).2.toNat = true → G 110 (T.getD k (0, 0)).2.toNat = (R.getD i dRw).1.getD k 0) → isB b' (∀ j, k ≤ j → j < T.length → pF1 m (G 110) T (R.getD i dRw).1 j)) := by
        unfold g272_129
        by_cases ce : ∃ j', 0 ≤ j' ∧ j' < k ∧ (T.getD k (0, 0)).1 = 1 ∧ (T.getD j' (0, 0)).1 = 1 ∧ (T.getD j' (0, 0)).2 = (T.getD k (0, 0)).2 ∧ (R.getD i dRw).1.getD j' 0 ≠ (R.getD i dRw).1.getD k 0
        · refine ⟨0, i2 ce, fun _ _ => bad (fun hh => ?_)⟩
          obtain ⟨j', _, q2, q3, q4, q5, q6⟩ := ce
          exact q6 (hh.2.2 q3 j' q2 q4 q5)
        · have hall : ∀ j', 0 ≤ j' → j' < k → (T.getD k (0, 0)).1 = 1 → (T.getD j' (0, 0)).1 = 1 → (T.getD j' (0, 0)).2 = (T.getD k (0, 0)).2 → (R.getD i dRw).1.getD j' 0 = (R.getD i dRw).1.getD k 0 := fun j' y1 y2 y3 y4 y5 => Decidable.byContradiction (fun z => ce ⟨j', y1, y2, y3, y4, y5, z⟩)
          exact ⟨b, (i1 hall).trans u1, fun y1 y2 => good ⟨y1, y2, fun y3 j' y4 => hall j' (by omega) y4 y3⟩⟩
      obtain ⟨b', v1, v2⟩ := e129
      have e73 : ∃ b', g272_73 (g272_3 f fu) f (x : Int) (p : Int) (i : Int) (k : Int) ((4 * x + k : Nat) : Int) ((R.getD i dRw).1.getD k 0) G = some (b', G) ∧ (((T.getD k (0, 0)).1 = 3 → (T.getD k (0, 0)).2 = (R.getD i dRw).1.getD k 0) → isB b' (∀ j, k ≤ j → j < T.length → pF1 m (G 110) T (R.getD i dRw).1 j)) := by
        unfold g272_73
        rw [if_pos (by omega), Int.toNat_natCast]
        simp only [Nat.reduceAdd]
        rw [a1]
        by_cases c1 : (T.getD k (0, 0)).1 = 1
        · have n1 : ¬ ¬ (T.getD k (0, 0)).1 = 1 := fun q => q c1
          have hb : 0 ≤ (T.getD k (0, 0)).2 ∧ (T.getD k (0, 0)).2 < 8 := by
            rcases hwk with z | z | z
            · omega
            · omega
            · omega
          obtain ⟨w, hw1⟩ : ∃ w : Nat, (T.getD k (0, 0)).2 = (w : Int) := ⟨(T.getD k (0, 0)).2.toNat, by omega⟩
          have a2' := a2 (by omega)
          have ew : xwr (w : Int) = (w : Int) := xwr_g _ (by omega) (by omega)
          rw [hw1] at a2' hb v2
          rw [if_neg n1, if_pos (by omega), a2', ew, l_270 hm (by omega) h37, Option.bind_some]
          rw [Int.toNat_natCast] at v2
          by_cases c2 : m.testBit w = true
          · have nb : ¬ ((1 : Int), G).1 = 0 := fun h => absurd (show (1 : Int) = 0 from h) (by decide)
            rw [if_pos c2, if_neg nb, if_pos (by omega)]
            simp only [a2', ew, Int.toNat_natCast]
            rw [if_pos (by omega)]
            by_cases c3 : G 110 w = (R.getD i dRw).1.getD k 0
            · rw [if_pos c3]
              exact ⟨b', v1, fun y => by rw [hw1] at y; exact v2 y (fun _ _ => c3)⟩
            · rw [if_neg c3]
              exact ⟨0, rfl, fun _ => bad (fun hh => c3 (by have := hh.2.1 c1; rw [hw1, Int.toNat_natCast] at this; exact this c2))⟩
          · rw [if_neg c2, if_pos rfl]
            exact ⟨b', v1, fun y => by rw [hw1] at y; exact v2 y (fun _ z => absurd z c2)⟩
        · rw [if_pos c1]
          exact ⟨b', v1, fun y => v2 y (fun z => absurd z c1)⟩
      obtain ⟨b2, w1, w2⟩ := e73
      rw [step]
      by_cases c1 : (T.getD k (0, 0)).1 = 3
      · have n1 : ¬ ¬ (T.getD k (0, 0)).1 = 3 := fun q => q c1
        rw [if_neg n1]
        by_cases c2 : (T.getD k (0, 0)).2 = (R.getD i dRw).1.getD k 0
        · rw [if_pos c2]
          exact ⟨b2, w1, w2 (fun _ => c2)⟩
        · rw [if_neg c2]
          exact ⟨0, rfl, bad (fun hh => c2 (hh.1 c1))⟩
      · rw [if_pos c1]
        exact ⟨b2, w1, w2 (fun z => absurd z c1)⟩
  unfold g272
  obtain ⟨b, k1, k2⟩ := loop T.length 0 f (by omega) (by omega)
  exact ⟨b, k1, k2.iff ⟨fun q j hj => q j (by omega) hj, fun q j _ hj => q j hj⟩⟩
end
end
section
/-! WAYS of the reference: rows that are open, rows alike, what a NOT and a compare say -/
/-- which rows may be used: of a ring ra only those below a RANK -/
def qOp (K : Nat → Nat) (ra rb : Int) (p : Nat) (w : pRw) : Prop := ra = -1 ∨ (K p : Int) ≠ ra ∨ w.2 < rb
def aLk (T : pCd) (xs ys : List Int) : Prop := ∀ k, k < T.length → (T.getD k (0, 0)).1 ≠ 2 → xs.getD k 0 = ys.getD k 0
/-- a sign between two values -/
def cCm (s a b : Int) : Prop := (s = 61 → a = b) ∧ (s = 257 → a ≠ b) ∧ (s = 60 → a < b) ∧ (s = 258 → a ≤ b) ∧ (s = 62 → b < a) ∧ (s = 259 → b ≤ a)
def sCm (v : Nat → Int) (y : pLt) : Prop := ∃ a b, qEv v y.2.2.2.2.1 = some a ∧ qEv v y.2.2.2.2.2 = some b ∧ cCm y.2.1 a b
section
variable {f p n x i m nv : Nat} {G : xG_} {R : List pRw} {T : pCd}
theorem l_271 {K : Nat → Nat} {ra rb : Int} (hp : p < 16) (hR : rRw G p n R) (hi : i < R.length) (h40 : G 0 40 = ra) (h41 : G 0 41 = rb) (hK : ra ≠ -1 → G 7 p = (K p : Int)) : ∃ b, g271 f (p : Int) (i : Int) G = some (b, G) ∧ isB b (qOp K ra rb p (R.getD i dRw)) := by
  have hl := hR.2.1
  obtain ⟨r1, r2, r3⟩ := hR.2.2 i hi
  have e1 : xwr (xwr ((p : Int) * 520) + (i : Int)) = ((p * 520 + i : Nat) : Int) := by
    rw [xwr_g ((p : Int) * 520) (by omega) (by omega), xwr_g _ (by omega) (by omega)]; omega
  have eg : g271 f (p : Int) (i : Int) G = if ra = -1 then some (1, G) else if ¬ (K p : Int) = ra then some (1, G) else if rb ≤ (R.getD i dRw).2 then some (0, G) else some (1, G) := by
    unfold g271 g271_43 g271_48
    rw [h40, h41, e1]
    by_cases c1 : ra = -1
    · rw [if_pos c1, if_pos c1]; rfl
    · rw [if_neg c1, if_neg c1, if_pos (by omega), Int.toNat_natCast]
      show (if ¬ G 7 p = ra then _ else _) = _
      rw [hK c1]
      by_cases c2 : (K p : Int) = ra
      · have n2 : ¬ ¬ (K p : Int) = ra := fun q => q c2
        rw [if_neg n2, if_neg n2, if_pos (by omega), Int.toNat_natCast, r3]
        rfl
      · rw [if_pos c2, if_pos c2]
        rfl
  unfold qOp
  rw [eg]
  by_cases c1 : ra = -1
  · rw [if_pos c1]
    exact ⟨1, rfl, .inl ⟨rfl, .inl c1⟩⟩
  · rw [if_neg c1]
    by_cases c2 : (K p : Int) = ra
    · rw [if_neg (fun q => q c2)]
      by_cases c3 : rb ≤ (R.getD i dRw).2
      · rw [if_pos c3]
        exact ⟨0, rfl, .inr ⟨rfl, by rintro (q | q | q) <;> omega⟩⟩
      · rw [if_neg c3]
        exact ⟨1, rfl, .inl ⟨rfl, .inr (.inr (by omega))⟩⟩
    · rw [if_pos c2]
      exact ⟨1, rfl, .inl ⟨rfl, .inr (.inl c2)⟩⟩
theorem l_273 {j : Nat} (hf : 20 < f) (hp : p < 16) (hT : rTm G x T) (hR : rRw G p n R) (hi : i < R.length) (hj : j < R.length) : ∃ b, g273 f (x : Int) (p : Int) (i : Int) (j : Int) G = some (b, G) ∧ isB b (aLk T (R.getD i dRw).1 (R.getD j dRw).1) := by
  obtain ⟨t1, t2, t3, t4⟩ := hT
  have hl := hR.2.1
  obtain ⟨r1, r2, r3⟩ := hR.2.2 i hi
  obtain ⟨s1, s2, s3⟩ := hR.2.2 j hj
  have loop : ∀ (d k fu : Nat), k + d = T.length → d < fu → ∃ b, g273_3 f fu (x : Int) (p : Int) (i : Int) (j : Int) (k : Int) G = some (b, G) ∧ isB b (∀ z, k ≤ z → z < T.length → (T.getD z (0, 0)).1 ≠ 2 → (R.getD i dRw).1.getD z 0 = (R.getD j dRw).1.getD z 0) := by
    intro d
    induction d with
    | zero =>
      intro k fu h1 h2
      obtain ⟨fu, rfl⟩ : ∃ t, fu = t + 1 := ⟨fu - 1, by omega⟩
      refine ⟨1, ?_, .inl ⟨rfl, fun z y1 y2 => by omega⟩⟩
      show g273_3b (g273_3 f fu) f _ _ _ _ _ _ = _
      unfold g273_3b
      rw [if_pos (by omega), Int.toNat_natCast]
      show (if G 29 x ≤ (k : Int) then _ else _) = _
      rw [t2, if_pos (by omega)]
    | succ d ih =>
      intro k fu h1 h2
      obtain ⟨fu, rfl⟩ : ∃ t, fu = t + 1 := ⟨fu - 1, by omega⟩
      have hk : k < T.length := by omega
      obtain ⟨a1, a2⟩ := t4 k hk
      have e1 : xwr (xwr ((x : Int) * 4) + (k : Int)) = ((4 * x + k : Nat) : Int) := by
        rw [xwr_g ((x : Int) * 4) (by omega) (by omega), xwr_g _ (by omega) (by omega)]; omega
      have e2 : xwr ((((p * 520 + i) * 4 : Nat) : Int) + (k : Int)) = (((p * 520 + i) * 4 + k : Nat) : Int) := by rw [xwr_g _ (by omega) (by omega)]; omega
      have e3 : xwr ((((p * 520 + j) * 4 : Nat) : Int) + (k : Int)) = (((p * 520 + j) * 4 + k : Nat) : Int) := by rw [xwr_g _ (by omega) (by omega)]; omega
      have e4 : xwr ((k : Int) + 1) = ((k + 1 : Nat) : Int) := by rw [xwr_g _ (by omega) (by omega)]; omega
      have step : g273_3 f (fu + 1) (x : Int) (p : Int) (i : Int) (j : Int) (k : Int) G = if (T.getD k (0, 0)).1 = 2 then g273_3 f fu (x : Int) (p : Int) (i : Int) (j : Int) ((k + 1 : Nat) : Int) G else if (R.getD i dRw).1.getD k 0 = (R.getD j dRw).1.getD k 0 then g273_3 f fu (x : Int) (p : Int) (i : Int) (j : Int) ((k + 1 : Nat) : Int) G else some (0, G) := by
        show g273_3b (g273_3 f fu) f _ _ _ _ _ _ = _
        unfold g273_3b g273_70
        rw [if_pos (by omega), Int.toNat_natCast]
        show (if G 29 x ≤ (k : Int) then _ else _) = _
        rw [t2, if_neg (by omega), e1, if_pos (by omega), Int.toNat_natCast]
        show (if G 33 (4 * x + k) = 2 then _ else _) = _
        rw [a1]
        by_cases c1 : (T.getD k (0, 0)).1 = 2
        · rw [if_pos c1, if_pos c1, e4]
        · rw [if_neg c1, if_neg c1, l_261 hp (by omega), Option.bind_some]
          simp only [e2]
          rw [if_pos (by omega), l_261 hp (by omega), Option.bind_some]
          simp only [e3]
          rw [if_pos (by omega), Int.toNat_natCast, Int.toNat_natCast, r2 k (by omega), s2 k (by omega), e4]
      obtain ⟨b, u1, u2⟩ := ih (k + 1) fu (by omega) (by omega)
      rw [step]
      by_cases c1 : (T.getD k (0, 0)).1 = 2
      · rw [if_pos c1]
        refine ⟨b, u1, u2.iff ⟨fun q z y1 y2 y3 => ?_, fun q z y1 y2 y3 => q z (by omega) y2 y3⟩⟩
        by_cases cz : z = k
        · rw [cz] at y3; exact absurd c1 y3
        · exact q z (by omega) y2 y3
      · rw [if_neg c1]
        by_cases c2 : (R.getD i dRw).1.getD k 0 = (R.getD j dRw).1.getD k 0
        · rw [if_pos c2]
          refine ⟨b, u1, u2.iff ⟨fun q z y1 y2 y3 => ?_, fun q z y1 y2 y3 => q z (by omega) y2 y3⟩⟩
          by_cases cz : z = k
          · rw [cz]; exact c2
          · exact q z (by omega) y2 y3
        · rw [if_neg c2]
          exact ⟨0, rfl, .inr ⟨rfl, fun q => c2 (q k (Nat.le_refl _) hk c1)⟩⟩
  unfold g273
  obtain ⟨b, k1, k2⟩ := loop T.length 0 f (by omega) (by omega)
  exact ⟨b, k1, k2.iff ⟨fun q j hj => q j (by omega) hj, fun q j _ hj => q j hj⟩⟩
/-- hasFirst -/
theorem l_274 {K : Nat → Nat} {ra rb : Int} (hf : 600 < f) (hp : p < 16) (hT : rTm G x T) (hR : rRw G p n R) (hi : i < R.length) (h40 : G 0 40 = ra) (h41 : G 0 41 = rb) (hK : ra ≠ -1 → G 7 p = (K p : Int)) : ∃ b, g274 f (x : Int) (p : Int) (i : Int) G = some (b, G) ∧ isB b (∃ j, j < i ∧ qOp K ra rb p (R.getD j dRw) ∧ aLk T (R.getD i dRw).1 (R.getD j dRw).1) := by
  have hl := hR.2.1
  have loop : ∀ (d j fu : Nat), j + d = i → d < fu → ∃ b, g274_3 f fu (x : Int) (p : Int) (i : Int) (j : Int) G = some (b, G) ∧ isB b (∃ z, j ≤ z ∧ z < i ∧ qOp K ra rb p (R.getD z dRw) ∧ aLk T (R.getD i dRw).1 (R.getD z dRw).1) := by
    intro d
    induction d with
    | zero =>
      intro j fu h1 h2
      obtain ⟨fu, rfl⟩ : ∃ t, fu = t + 1 := ⟨fu - 1, by omega⟩
      refine ⟨0, ?_, .inr ⟨rfl, fun ⟨z, y1, y2, _⟩ => by omega⟩⟩
      show g274_3b (g274_3 f fu) f _ _ _ _ _ = _
      unfold g274_3b
      rw [if_pos (by omega)]
    | succ d ih =>
      intro j fu h1 h2
      obtain ⟨fu, rfl⟩ : ∃ t, fu = t + 1 := ⟨fu - 1, by omega⟩
      have e4 : xwr ((j : Int) + 1) = ((j + 1 : Nat) : Int) := by rw [xwr_g _ (by omega) (by omega)]; omega
      obtain ⟨b1, o1, o2⟩ := l_271 (f := f) hp hR (by omega : j < R.length) h40 h41 hK
      obtain ⟨b2, q1, q2⟩ := l_273 (f := f) (by omega) hp hT hR hi (by omega : j < R.length)
      obtain ⟨b, u1, u2⟩ := ih (j + 1) fu (by omega) (by omega)
      have step : g274_3 f (fu + 1) (x : Int) (p : Int) (i : Int) (j : Int) G = if b1 = 0 then some (b, G) else if b2 = 0 then some (b, G) else some (1, G) := by
        show g274_3b (g274_3 f fu) f _ _ _ _ _ = _
        unfold g274_3b g274_33
        rw [if_neg (by omega), o1, Option.bind_some, e4, u1]
        show (if b1 = 0 then _ else Option.bind (g273 f _ _ _ _ G) _) = _
        rw [q1, Option.bind_some, u1]
      rw [step]
      have skip : ¬ (qOp K ra rb p (R.getD j dRw) ∧ aLk T (R.getD i dRw).1 (R.getD j dRw).1) → isB b (∃ z, j ≤ z ∧ z < i ∧ qOp K ra rb p (R.getD z dRw) ∧ aLk T (R.getD i dRw).1 (R.getD z dRw).1) := fun hn => u2.iff ⟨fun ⟨z, y1, y2⟩ => ⟨z, by omega, y2⟩, fun ⟨z, y1, y2, y3⟩ => ⟨z, by
        by_cases cz : z = j
        · rw [cz] at y3; exact absurd y3 hn
        · omega, y2, y3⟩⟩
      rcases o2 with ⟨c1, c2⟩ | ⟨c1, c2⟩
      · rw [if_neg (by omega)]
        rcases q2 with ⟨c3, c4⟩ | ⟨c3, c4⟩
        · rw [if_neg (by omega)]
          exact ⟨1, rfl, .inl ⟨rfl, j, Nat.le_refl _, by omega, c2, c4⟩⟩
        · rw [if_pos c3]
          exact ⟨b, rfl, skip (fun z => c4 z.2)⟩
      · rw [if_pos c1]
        exact ⟨b, rfl, skip (fun z => c2 z.1)⟩
  unfold g274
  obtain ⟨b, k1, k2⟩ := loop i 0 f (by omega) (by omega)
  exact ⟨b, k1, k2.iff ⟨fun ⟨z, _, y2⟩ => ⟨z, y2⟩, fun ⟨z, y2⟩ => ⟨z, by omega, y2⟩⟩⟩
/-- isSome -/
theorem l_280 (hf : 600 < f) (hp : p < 16) (hT : rTm G x T) (hof : G 28 x = (p : Int)) (hw : ∀ y ∈ T, wT1 nv y) (hnv : nv ≤ 8) (hR : rRw G p n R) (hm : m < 256) (h37 : G 0 37 = (m : Int)) : ∃ b, g280 f (x : Int) G = some (b, G) ∧ isB b (∃ w, w ∈ R ∧ pFit m (G 110) T w.1) := by
  have hl := hR.2.1
  have hx := hT.1
  have loop : ∀ (d i fu : Nat), i + d = R.length → d < fu → ∃ b, g280_2 f fu (x : Int) (i : Int) G = some (b, G) ∧ isB b (∃ z, i ≤ z ∧ z < R.length ∧ pFit m (G 110) T (R.getD z dRw).1) := by
    intro d
    induction d with
    | zero =>
      intro i fu h1 h2
      obtain ⟨fu, rfl⟩ : ∃ t, fu = t + 1 := ⟨fu - 1, by omega⟩
      refine ⟨0, ?_, .inr ⟨rfl, fun ⟨z, y1, y2, _⟩ => by omega⟩⟩
      show g280_2b (g280_2 f fu) f _ _ _ = _
      unfold g280_2b
      rw [if_pos (by omega), Int.toNat_natCast]
      show (if 0 ≤ G 28 x ∧ G 28 x < 16 then (if G 108 (G 28 x).toNat ≤ (i : Int) then _ else _) else _) = _
      rw [hof, if_pos (by omega), Int.toNat_natCast, hR.1, if_pos (by omega)]
    | succ d ih =>
      intro i fu h1 h2
      obtain ⟨fu, rfl⟩ : ∃ t, fu = t + 1 := ⟨fu - 1, by omega⟩
      have e4 : xwr ((i : Int) + 1) = ((i + 1 : Nat) : Int) := by rw [xwr_g _ (by omega) (by omega)]; omega
      obtain ⟨b1, q1, q2⟩ := l_272 (f := f) (by omega) hp hT hw hnv hR (by omega : i < R.length) hm h37
      obtain ⟨b, u1, u2⟩ := ih (i + 1) fu (by omega) (by omega)
      have step : g280_2 f (fu + 1) (x : Int) (i : Int) G = if b1 = 0 then some (b, G) else some (1, G) := by
        show g280_2b (g280_2 f fu) f _ _ _ = _
        unfold g280_2b
        rw [if_pos (by omega), Int.toNat_natCast]
        show (if 0 ≤ G 28 x ∧ G 28 x < 16 then (if G 108 (G 28 x).toNat ≤ (i : Int) then _ else (if _ then Option.bind (g272 f _ (G 28 x) _ G) _ else _)) else _) = _
        rw [hof, if_pos (by omega), Int.toNat_natCast, hR.1, if_neg (by omega), if_pos (by omega), q1, Option.bind_some, e4, u1]
      rw [step]
      rcases q2 with ⟨c1, c2⟩ | ⟨c1, c2⟩
      · rw [if_neg (by omega)]
        exact ⟨1, rfl, .inl ⟨rfl, i, Nat.le_refl _, by omega, c2⟩⟩
      · rw [if_pos c1]
        refine ⟨b, rfl, u2.iff ⟨fun ⟨z, y1, y2⟩ => ⟨z, by omega, y2⟩, fun ⟨z, y1, y2, y3⟩ => ⟨z, ?_, y2, y3⟩⟩⟩
        by_cases cz : z = i
        · rw [cz] at y3; exact absurd y3 c2
        · omega
  unfold g280
  obtain ⟨b, k1, k2⟩ := loop R.length 0 f (by omega) (by omega)
  refine ⟨b, k1, k2.iff ⟨fun ⟨z, _, y2, y3⟩ => ⟨R.getD z dRw, by rw [getD_e y2]; exact List.getElem_mem y2, y3⟩, fun ⟨w, y1, y2⟩ => ?_⟩⟩
  obtain ⟨z, hz, rfl⟩ := List.getElem_of_mem y1
  exact ⟨z, by omega, hz, by rw [getD_e hz]; exact y2⟩
/-- compares -/
theorem l_281 {v : Nat → Int} {c : Nat} {y : pLt} (hf : 6300 < f) (hx : x < 200) (hL : rLt G 2 x c y) (h3 : y.1 = 3) (hc : c ≤ 6200) (hs : isCs y.2.1) (hw1 : wEx nv y.2.2.2.2.1) (hw2 : wEx nv y.2.2.2.2.2) (hnv : nv ≤ 8) (hl1 : rVl G (qVm y.2.2.2.2.1) v) (hl2 : rVl G (qVm y.2.2.2.2.2) v) :
    ∃ G' b, g281 f (x : Int) G = some (b, G') ∧ xfu G G' ∧ isB b (sCm v y) := by
  obtain ⟨q1, q2, q3, q4⟩ := hL
  obtain ⟨z1, a, z2, z3, z4, z5, z6, z7⟩ := q4 h3
  obtain ⟨G1, w1, k1, k2, k3⟩ := l_266 (f := f) (v := v) hf hnv (by omega : a + y.2.2.2.2.1.length ≤ 6200) z6 hw1 hl1
  have fr1 : ∀ o j, ¬ (o = 0 ∧ j = 42) → o ≠ 111 → G1 o j = G o j := k2
  obtain ⟨G2, w2, m1, m2, m3⟩ := l_266 (f := f) (v := v) (G := G1) hf hnv (by omega : a + y.2.2.2.2.1.length + y.2.2.2.2.2.length ≤ 6200) (fun j hj => by rw [fr1 _ _ (by omega) (by omega), fr1 _ _ (by omega) (by omega)]; exact z7 j hj) hw2 (fun k hk => by rw [fr1 _ _ (by omega) (by omega)]; exact hl2 k hk)
  have fr2 : xfu G G2 := fun o j y1 y2 => by rw [m2 o j y1 y2, k2 o j y1 y2]
  have z1' : G 28 x = rsc y.2.1 := z1
  have z2' : G 30 x = (a : Int) := z2
  have z3' : G 31 x = ((a + y.2.2.2.2.1.length : Nat) : Int) := z3
  have z4' : G 32 x = ((a + y.2.2.2.2.1.length + y.2.2.2.2.2.length : Nat) : Int) := z4
  have e1 : g281 f (x : Int) G = (if G1 0 42 = 0 then (if G2 0 42 = 0 then (if (60 : Int) = rsc y.2.1 then (if w2 ≤ w1 then some (0, G2) else some (1, G2)) else (if (61 : Int) = rsc y.2.1 then (if ¬ w1 = w2 then some (0, G2) else some (1, G2)) else (if (62 : Int) = rsc y.2.1 then (if w1 ≤ w2 then some (0, G2) else some (1, G2)) else (if (301 : Int) = rsc y.2.1 then (if w1 = w2 then some (0, G2) else some (1, G2)) else (if (302 : Int) = rsc y.2.1 then (if w2 < w1 then some (0, G2) else some (1, G2)) else (if w1 < w2 then some (0, G2) else some (1, G2))))))) else some (0, G2)) else some (0, G1)) := by
    have hxx : 0 ≤ (x : Int) ∧ (x : Int) < 200 := by omega
    unfold g281 g281_201 g281_188 g281_175 g281_162 g281_149 g281_136
    simp only [Nat.reduceAdd, Int.toNat_natCast, if_pos hxx]
    rw [z2', z3', k1]
    simp only [Option.bind_some]
    rw [fr1 31 x (by omega) (by omega), fr1 32 x (by omega) (by omega), z3', z4', m1]
    simp only [Option.bind_some, fr2 28 x (by omega) (by omega), z1', eq_self, true_or, or_true, if_true]
  rw [e1]
  rcases k3 with ⟨k4, k5, k6⟩ | ⟨k4, k5, k6⟩
  · rw [if_pos k6]
    rcases m3 with ⟨m4, m5, m6⟩ | ⟨m4, m5, m6⟩
    · rw [if_pos m6]
      have iff : sCm v y ↔ cCm y.2.1 w1 w2 := by
        constructor
        · rintro ⟨a', b', h1, h2, h3⟩
          rw [k4] at h1
          rw [m4] at h2
          injection h1 with h1
          injection h2 with h2
          rw [h1, h2]
          exact h3
        · exact fun h => ⟨w1, w2, k4, m4, h⟩
      have fin : ∀ {Q : Prop} [Decidable Q], (Q ↔ ¬ cCm y.2.1 w1 w2) → ∃ G' b, (if Q then some ((0 : Int), G2) else some (1, G2)) = some (b, G') ∧ xfu G G' ∧ isB b (sCm v y) := by
        intro Q _ h
        by_cases c : Q
        · rw [if_pos c]
          exact ⟨G2, 0, rfl, fr2, .inr ⟨rfl, fun z => (h.mp c) (iff.mp z)⟩⟩
        · rw [if_neg c]
          exact ⟨G2, 1, rfl, fr2, .inl ⟨rfl, iff.mpr (Classical.byContradiction (fun z => c (h.mpr z)))⟩⟩
      unfold isCs at hs
      rcases hs with hs | hs | hs | hs | hs | hs
      · rw [hs, show rsc 61 = 61 from rfl, if_neg (by decide), if_pos rfl]
        exact fin (by rw [hs]; unfold cCm; omega)
      · rw [hs, show rsc 257 = 301 from rfl, if_neg (by decide), if_neg (by decide), if_neg (by decide), if_pos rfl]
        exact fin (by rw [hs]; unfold cCm; omega)
      · rw [hs, show rsc 60 = 60 from rfl, if_pos rfl]
        exact fin (by rw [hs]; unfold cCm; omega)
      · rw [hs, show rsc 258 = 302 from rfl, if_neg (by decide), if_neg (by decide), if_neg (by decide), if_neg (by decide), if_pos rfl]
        exact fin (by rw [hs]; unfold cCm; omega)
      · rw [hs, show rsc 62 = 62 from rfl, if_neg (by decide), if_neg (by decide), if_pos rfl]
        exact fin (by rw [hs]; unfold cCm; omega)
      · rw [hs, show rsc 259 = 303 from rfl, if_neg (by decide), if_neg (by decide), if_neg (by decide), if_neg (by decide), if_neg (by decide)]
        exact fin (by rw [hs]; unfold cCm; omega)
    · rw [if_neg (by omega)]
      exact ⟨G2, 0, rfl, fr2, .inr ⟨rfl, fun ⟨a', b', h1, h2, h3⟩ => by rw [m4] at h2; cases h2⟩⟩
  · rw [if_neg (by omega)]
    exact ⟨G1, 0, rfl, k2, .inr ⟨rfl, fun ⟨a', b', h1, h2, h3⟩ => by rw [k4] at h1; cases h1⟩⟩
end
end
section
/-! WAYS of the reference: what = binds -/
/-- v has the values vl of the VARIABLES of m -/
def vXt (m : Nat) (vl v : Nat → Int) : Prop := ∀ k, m.testBit k = true → v k = vl k
theorem qEs_xt {v w : Nat → Int} : ∀ (Q : pCd) (st : List Int), (∀ k, (qVm Q).testBit k = true → v k = w k) → (∀ x ∈ Q, x.1 = 1 ∨ x.1 = 2 ∨ x.1 = 3) → qEs v Q st = qEs w Q st
  | [], _, _, _ => rfl
  | x :: q, st, h, hx => by
    have hq : ∀ k, (qVm q).testBit k = true → v k = w k := fun k hk => h k (by
      show ((if x.1 = 2 then 2 ^ x.2.toNat else 0) ||| qVm q).testBit k = true
      rw [Nat.testBit_or, hk, Bool.or_true])
    have hx' : ∀ y ∈ q, y.1 = 1 ∨ y.1 = 2 ∨ y.1 = 3 := fun y hy => hx y (List.mem_cons_of_mem _ hy)
    unfold qEs
    by_cases c : x.1 = 3
    · rw [if_pos c, if_pos c]
      cases st with
      | nil => rfl
      | cons b st =>
        cases st with
        | nil => rfl
        | cons a st =>
          show Option.bind _ _ = Option.bind _ _
          congr 1
          funext z
          exact qEs_xt q _ hq hx'
    · rw [if_neg c, if_neg c]
      have e : (if x.1 = 1 then x.2 else v x.2.toNat) = (if x.1 = 1 then x.2 else w x.2.toNat) := by
        by_cases c1 : x.1 = 1
        · rw [if_pos c1, if_pos c1]
        · have c2 : x.1 = 2 := by
            rcases hx x List.mem_cons_self with z | z | z
            · exact absurd z c1
            · exact z
            · exact absurd z c
          rw [if_neg c1, if_neg c1]
          exact h _ (by
            show ((if x.1 = 2 then 2 ^ x.2.toNat else 0) ||| qVm q).testBit x.2.toNat = true
            rw [if_pos c2, Nat.testBit_or, Nat.testBit_two_pow_self, Bool.true_or])
      rw [e]
      exact qEs_xt q _ hq hx'
theorem wC.k {nv : Nat} {Q : pCd} (h : wC nv Q) : ∀ x ∈ Q, x.1 = 1 ∨ x.1 = 2 ∨ x.1 = 3 := fun x hx => by
  rcases h x hx with z | z | z
  · exact .inl z.1
  · exact .inr (.inl z.1)
  · exact .inr (.inr z.1)
theorem qEv_xt {v w : Nat → Int} {nv : Nat} {Q : pCd} (hw : wC nv Q) (h : ∀ k, (qVm Q).testBit k = true → v k = w k) : qEv v Q = qEv w Q := by
  unfold qEv
  rw [qEs_xt Q [] h hw.k]
/-- a VARIABLE alone -/
theorem qAl_is {nv : Nat} {Q : pCd} (hw : wC nv Q) (h : qAl2 Q) : ∃ x : Nat, x < nv ∧ Q = [(2, (x : Int))] := by
  obtain ⟨h1, h2⟩ := h
  obtain ⟨y, rfl⟩ := List.length_eq_one_iff.mp h1
  have h3 : y.1 = 2 := h2
  rcases hw y List.mem_cons_self with z | z | z
  · omega
  · refine ⟨y.2.toNat, by omega, ?_⟩
    have : y = (2, ((y.2.toNat : Nat) : Int)) := Prod.ext h3 (by show y.2 = _; omega)
    rw [← this]
  · omega
def xfv (m : Nat) (G G' : xG_) : Prop := (∀ o j, ¬ (o = 0 ∧ (j = 37 ∨ j = 42)) → o ≠ 110 → o ≠ 111 → G' o j = G o j) ∧ ∀ k, m.testBit k = true → G' 110 k = G 110 k
theorem xfv.tr {m m' : Nat} {G G1 G2 : xG_} (h1 : xfv m G G1) (h2 : xfv m' G1 G2) (hs : ∀ k, m.testBit k = true → m'.testBit k = true) : xfv m G G2 := ⟨fun o j a b c => (h2.1 o j a b c).trans (h1.1 o j a b c), fun k hk => (h2.2 k (hs k hk)).trans (h1.2 k hk)⟩
theorem xfv.rf (m : Nat) (G : xG_) : xfv m G G := ⟨fun _ _ _ _ _ => rfl, fun _ _ => rfl⟩
/-- the VARIABLES of m have values -/
def rBn (G : xG_) (m nv : Nat) : Prop := G 0 37 = (m : Int) ∧ m < 256 ∧ ∀ k, m.testBit k = true → k < nv ∧ vOk (G 110 k)
section
variable {f nv a b m : Nat} {G : xG_} {Q1 Q2 : pCd}
theorem l_278 (hf : 6300 < f) (hnv : nv ≤ 8) (h1 : rCo G 2 a Q1) (h2 : rCo G 2 b Q2) (w1 : wEx nv Q1) (w2 : wEx nv Q2) (ha : a + Q1.length ≤ 6200) (hb : b + Q2.length ≤ 6200) (hm : rBn G m nv) :
    ∃ G' r, g278 f (a : Int) ((a + Q1.length : Nat) : Int) (b : Int) ((b + Q2.length : Nat) : Int) G = some (r, G') ∧ xfv m G G' ∧
      ((r = 1 ∧ rBn G' (if qAl2 Q1 ∧ qSub (qVm Q2) m then m ||| qVm Q1 else m) nv ∧ ∀ v, vXt m (G 110) v → (∃ z, qEv v Q1 = some z ∧ qEv v Q2 = some z) → vXt (if qAl2 Q1 ∧ qSub (qVm Q2) m then m ||| qVm Q1 else m) (G' 110) v) ∨ (r = 0 ∧ ∀ v, vXt m (G 110) v → qEv v Q2 = none)) := by
  obtain ⟨b1, b2, b3⟩ := hm
  have hn1 : 1 ≤ Q1.length := wSt_ne w1.2
  have hq2 := qVm_lt w2.1 hnv
  have ea := l_alone (f := f) h1 ha hn1
  by_cases c1 : qAl2 Q1
  · obtain ⟨x, hx, hQ⟩ := qAl_is w1.1 c1
    have c1' : Q1.length = 1 ∧ (Q1.getD 0 (0, 0)).1 = 2 := c1
    have hvm : qVm Q1 = 2 ^ x := by
      rw [hQ]
      show (if (2 : Int) = 2 then 2 ^ ((x : Int)).toNat else 0) ||| 0 = _
      rw [if_pos rfl, Int.toNat_natCast, Nat.or_zero]
    have hco : G 36 a = (x : Int) := by
      have := (h1 0 (by omega)).2
      rw [hQ] at this
      exact this
    have hwx : xwr (x : Int) = (x : Int) := xwr_g _ (by omega) (by omega)
    have nb : ¬ ((1 : Int), G).1 = 0 := fun h => absurd (show (1 : Int) = 0 from h) (by decide)
    have e1 : g278 f (a : Int) ((a + Q1.length : Nat) : Int) (b : Int) ((b + Q2.length : Nat) : Int) G = if m.testBit x = true then some (1, G) else if qSub (qVm Q2) m then (g266 f (b : Int) ((b + Q2.length : Nat) : Int) G).bind (fun R120 => (if (R120.2 0 42) = 0 then (if 0 ≤ (a : Int) ∧ (a : Int) < 6200 then (if 0 ≤ (xwr (R120.2 36 a)) ∧ (xwr (R120.2 36 a)) < 8 then ((some (xup2 R120.2 110 (xwr (R120.2 36 a)).toNat (R120.1))).bind fun G131 => (if 0 ≤ (a : Int) ∧ (a : Int) < 6200 then ((some (xup2 G131 0 37 (xor_ (G131 0 37) (xshl 1 (xwr (G131 36 a)))))).bind fun G136 => (some (1, G136))) else none)) else none) else none) else (some (0, R120.2)))) else some (1, G) := by
      have haa : 0 ≤ (a : Int) ∧ (a : Int) < 6200 := by omega
      unfold g278 g278_49
      rw [ea, if_pos c1', Option.bind_some, if_neg nb]
      simp only [Nat.reduceAdd, Int.toNat_natCast, if_pos haa]
      rw [hco, hwx, l_270 b2 (by omega) b1]
      simp only [Option.bind_some]
      by_cases c2 : m.testBit x = true
      · simp only [if_pos c2, Int.reduceEq, not_false_eq_true, if_true]
      · simp only [if_neg c2, not_true_eq_false, if_false]
        rw [l_vof hf w2.1 hnv h2 hb]
        simp only [Option.bind_some]
        rw [b1]
        by_cases c3 : qSub (qVm Q2) m
        · rw [if_pos ((xsubq hq2 b2).mpr c3), if_pos c3]
        · rw [if_neg (fun z => c3 ((xsubq hq2 b2).mp z)), if_neg c3]
    rw [e1]
    by_cases c2 : m.testBit x = true
    · have em : (if qAl2 Q1 ∧ qSub (qVm Q2) m then m ||| qVm Q1 else m) = m := by
        by_cases c4 : qAl2 Q1 ∧ qSub (qVm Q2) m
        · rw [if_pos c4, hvm]
          refine Nat.eq_of_testBit_eq (fun k => ?_)
          rw [or_bit]
          by_cases ck : x = k
          · rw [← ck, c2]; rfl
          · rw [decide_eq_false ck, Bool.or_false]
        · rw [if_neg c4]
      rw [if_pos c2, em]
      exact ⟨G, 1, rfl, .rf _ _, .inl ⟨rfl, ⟨b1, b2, b3⟩, fun v hv _ => hv⟩⟩
    · rw [if_neg c2]
      by_cases c3 : qSub (qVm Q2) m
      · have c4 : qAl2 Q1 ∧ qSub (qVm Q2) m := And.intro c1 c3
        rw [if_pos c3, if_pos c4]
        have hl : rVl G (qVm Q2) (G 110) := fun k hk => by
          have := qSub_t.mp c3 k hk
          exact ⟨by have := (b3 k this).1; omega, rfl, (b3 k this).2⟩
        obtain ⟨G1, w, k1, k2, k3⟩ := l_266 (f := f) (v := G 110) hf hnv hb h2 w2 hl
        have q1 : xwr (G1 36 a) = (x : Int) := by rw [k2 36 a (by omega) (by omega), hco, hwx]
        have q2 : xwr (xup2 G1 110 x w 36 a) = (x : Int) := by rw [xup2_n (by omega)]; exact q1
        have q3 : xup2 G1 110 x w 0 37 = (m : Int) := by rw [xup2_n (by omega), k2 0 37 (by omega) (by omega)]; exact b1
        have haa : 0 ≤ (a : Int) ∧ (a : Int) < 6200 := by omega
        have h8 : 0 ≤ (x : Int) ∧ (x : Int) < 8 := by omega
        have e2 : (g266 f (b : Int) ((b + Q2.length : Nat) : Int) G).bind (fun R120 => (if (R120.2 0 42) = 0 then (if 0 ≤ (a : Int) ∧ (a : Int) < 6200 then (if 0 ≤ (xwr (R120.2 36 a)) ∧ (xwr (R120.2 36 a)) < 8 then ((some (xup2 R120.2 110 (xwr (R120.2 36 a)).toNat (R120.1))).bind fun G131 => (if 0 ≤ (a : Int) ∧ (a : Int) < 6200 then ((some (xup2 G131 0 37 (xor_ (G131 0 37) (xshl 1 (xwr (G131 36 a)))))).bind fun G136 => (some ((1 : Int), G136))) else none)) else none) else none) else (some (0, R120.2)))) = if G1 0 42 = 0 then some (1, xup2 (xup2 G1 110 x w) 0 37 ((m ||| 2 ^ x : Nat) : Int)) else some (0, G1) := by
          rw [k1, Option.bind_some]
          show (if G1 0 42 = 0 then (if 0 ≤ (a : Int) ∧ (a : Int) < 6200 then (if 0 ≤ (xwr (G1 36 a)) ∧ (xwr (G1 36 a)) < 8 then ((some (xup2 G1 110 (xwr (G1 36 a)).toNat w)).bind fun G131 => (if 0 ≤ (a : Int) ∧ (a : Int) < 6200 then ((some (xup2 G131 0 37 (xor_ (G131 0 37) (xshl 1 (xwr (G131 36 a)))))).bind fun G136 => (some ((1 : Int), G136))) else none)) else none) else none) else (some (0, G1))) = _
          rw [if_pos haa, q1, if_pos h8, Int.toNat_natCast, Option.bind_some, if_pos haa, q2, q3, Option.bind_some, xorb (by omega) (by omega)]
        rw [e2]
        rcases k3 with ⟨k4, k5, k6⟩ | ⟨k4, k5, k6⟩
        · rw [if_pos k6]
          refine ⟨_, 1, rfl, ⟨fun o j y1 y2 y3 => ?_, fun k hk => ?_⟩, .inl ⟨rfl, ⟨by rw [xup2_s, hvm], by rw [hvm]; exact or_lt (k := 8) b2 (by omega), fun k hk => ?_⟩, fun v hv ⟨z, z1, z2⟩ k hk => ?_⟩⟩
          · rw [xup2_n (by omega), xup2_n (by omega), k2 o j (by omega) y3]
          · have : k ≠ x := fun e => c2 (e ▸ hk)
            rw [xup2_n (by omega), xup2_n (by omega), k2 _ _ (by omega) (by omega)]
          · rw [hvm, or_bit] at hk
            by_cases ck : k = x
            · rw [ck, xup2_n (by omega), xup2_s]
              exact ⟨hx, k5⟩
            · have hk' : m.testBit k = true := by
                rw [decide_eq_false (fun z => ck z.symm), Bool.or_false] at hk
                exact hk
              rw [xup2_n (by omega), xup2_n (by omega), k2 _ _ (by omega) (by omega)]
              exact b3 k hk'
          · rw [hvm, or_bit] at hk
            have ez : qEv v Q2 = some w := by
              rw [← k4]
              exact qEv_xt w2.1 (fun j hj => hv j (qSub_t.mp c3 j hj))
            by_cases ck : k = x
            · rw [ck, xup2_n (by omega), xup2_s]
              have e2 : qEv v Q1 = some (v x) := by rw [hQ]; rfl
              rw [e2] at z1
              rw [ez] at z2
              injection z1 with z1
              injection z2 with z2
              omega
            · have hk' : m.testBit k = true := by
                rw [decide_eq_false (fun z => ck z.symm), Bool.or_false] at hk
                exact hk
              rw [xup2_n (by omega), xup2_n (by omega), k2 _ _ (by omega) (by omega)]
              exact hv k hk'
        · rw [if_neg (by omega)]
          refine ⟨G1, 0, rfl, ⟨fun o j y1 y2 y3 => k2 o j (by omega) y3, fun k hk => k2 _ _ (by omega) (by omega)⟩, .inr ⟨rfl, fun v hv => ?_⟩⟩
          rw [← k4]
          exact qEv_xt w2.1 (fun j hj => hv j (qSub_t.mp c3 j hj))
      · have c4 : ¬ (qAl2 Q1 ∧ qSub (qVm Q2) m) := fun z => c3 z.2
        rw [if_neg c3, if_neg c4]
        exact ⟨G, 1, rfl, .rf _ _, .inl ⟨rfl, ⟨b1, b2, b3⟩, fun v hv _ => hv⟩⟩
  · have c4 : ¬ (qAl2 Q1 ∧ qSub (qVm Q2) m) := fun z => c1 z.1
    have c1' : ¬ (Q1.length = 1 ∧ (Q1.getD 0 (0, 0)).1 = 2) := c1
    have e1 : g278 f (a : Int) ((a + Q1.length : Nat) : Int) (b : Int) ((b + Q2.length : Nat) : Int) G = some (1, G) := by
      unfold g278 g278_49
      rw [ea, if_neg c1', Option.bind_some, if_pos rfl]
    rw [e1, if_neg c4]
    exact ⟨G, 1, rfl, .rf _ _, .inl ⟨rfl, ⟨b1, b2, b3⟩, fun v hv _ => hv⟩⟩
end
end
section
/-! WAYS of the reference: all that = binds -/
theorem rLs.v {G G' : xG_} {r c : Nat} {l : List pLt} (h : rLs G 2 r c l) (hf : ∀ a j, 2 ≤ a → a ≤ 36 → G' a j = G a j) : rLs G' 2 r c l := by
  obtain ⟨a1, a2, a3⟩ := h
  refine ⟨by rw [hf _ _ (by omega) (by omega)]; exact a1, a2, fun k hk => (a3 k hk).fr (Nat.le_refl _) (fun a _ _ => hf _ _ (by omega) (by omega)) (fun k hk => ⟨hf _ _ (by omega) (by omega), hf _ _ (by omega) (by omega)⟩) (fun j hj => ⟨hf _ _ (by omega) (by omega), hf _ _ (by omega) (by omega)⟩)⟩
/-- all = of LITERALS hold -/
def sEq (v : Nat → Int) (l : List pLt) : Prop := ∀ y ∈ l, y.1 = 3 → y.2.1 = 61 → sCm v y
theorem sCm_eq {v : Nat → Int} {y : pLt} (h : sCm v y) (h1 : y.2.1 = 61) : ∃ z, qEv v y.2.2.2.2.1 = some z ∧ qEv v y.2.2.2.2.2 = some z := by
  obtain ⟨a, b, k1, k2, k3⟩ := h
  have := k3.1 h1
  exact ⟨a, k1, by rw [this]; exact k2⟩
section
variable {f nv np r c m : Nat} {l : List pLt}
/-- the mask behind one = -/
theorem l_277_s {G : xG_} {y : pLt} {x : Nat} (hf : 6300 < f) (hnv : nv ≤ 8) (hc : c ≤ 6200) (hL : rLt G 2 x c y) (h3 : y.1 = 3) (hw : wLt np nv y) (hm : rBn G m nv) :
    ∃ a : Nat, G 30 x = (a : Int) ∧ G 31 x = ((a + y.2.2.2.2.1.length : Nat) : Int) ∧ G 32 x = ((a + y.2.2.2.2.1.length + y.2.2.2.2.2.length : Nat) : Int) ∧ ∃ G1 r1, g278 f (a : Int) ((a + y.2.2.2.2.1.length : Nat) : Int) ((a + y.2.2.2.2.1.length : Nat) : Int) ((a + y.2.2.2.2.1.length + y.2.2.2.2.2.length : Nat) : Int) G = some (r1, G1) ∧ xfv m G G1 ∧
      ((r1 = 0 ∧ ∀ v, vXt m (G 110) v → qEv v y.2.2.2.2.2 = none) ∨ (r1 = 1 ∧ ∃ G2 r2, g278 f ((a + y.2.2.2.2.1.length : Nat) : Int) ((a + y.2.2.2.2.1.length + y.2.2.2.2.2.length : Nat) : Int) (a : Int) ((a + y.2.2.2.2.1.length : Nat) : Int) G1 = some (r2, G2) ∧ xfv m G G2 ∧
        ((r2 = 0 ∧ ∀ v, vXt m (G 110) v → (∃ z, qEv v y.2.2.2.2.1 = some z ∧ qEv v y.2.2.2.2.2 = some z) → False) ∨ (r2 = 1 ∧ rBn G2 (qR1 y (qL1 y m)) nv ∧ ∀ v, vXt m (G 110) v → (∃ z, qEv v y.2.2.2.2.1 = some z ∧ qEv v y.2.2.2.2.2 = some z) → vXt (qR1 y (qL1 y m)) (G2 110) v)))) := by
  obtain ⟨q1, q2, q3, q4⟩ := hL
  obtain ⟨z1, a, z2, z3, z4, z5, z6, z7⟩ := q4 h3
  have hw' : wEx nv y.2.2.2.2.1 ∧ wEx nv y.2.2.2.2.2 := by
    rcases hw with z | z
    · omega
    · exact z.2.2
  obtain ⟨G1, r1, k1, k2, k3⟩ := l_278 (f := f) hf hnv z6 z7 hw'.1 hw'.2 (by omega) (by omega) hm
  refine ⟨a, z2, z3, z4, G1, r1, k1, k2, ?_⟩
  rcases k3 with ⟨k3, k4, k5⟩ | k3
  · have cp : ∀ {b : Nat} {Q : pCd}, rCo G 2 b Q → rCo G1 2 b Q := fun h j hj => by
      rw [k2.1 _ _ (by omega) (by omega) (by omega), k2.1 _ _ (by omega) (by omega) (by omega)]
      exact h j hj
    have sub : ∀ k, m.testBit k = true → (if qAl2 y.2.2.2.2.1 ∧ qSub (qVm y.2.2.2.2.2) m then m ||| qVm y.2.2.2.2.1 else m).testBit k = true := fun k hk => by
      by_cases c1 : qAl2 y.2.2.2.2.1 ∧ qSub (qVm y.2.2.2.2.2) m
      · rw [if_pos c1, Nat.testBit_or, hk, Bool.true_or]
      · rw [if_neg c1]; exact hk
    have em : qL1 y m = (if qAl2 y.2.2.2.2.1 ∧ qSub (qVm y.2.2.2.2.2) m then m ||| qVm y.2.2.2.2.1 else m) := rfl
    rw [← em] at k4 k5 sub
    obtain ⟨G2, r2, m1, m2, m3⟩ := l_278 (f := f) hf hnv (cp z7) (cp z6) hw'.2 hw'.1 (by omega) (by omega) k4
    refine .inr ⟨k3, G2, r2, m1, k2.tr m2 sub, ?_⟩
    rcases m3 with ⟨m3, m4, m5⟩ | ⟨m3, m4⟩
    · have em2 : qR1 y (qL1 y m) = (if qAl2 y.2.2.2.2.2 ∧ qSub (qVm y.2.2.2.2.1) (qL1 y m) then qL1 y m ||| qVm y.2.2.2.2.2 else qL1 y m) := rfl
      rw [← em2] at m4 m5
      exact .inr ⟨m3, m4, fun v hv ⟨z, y1, y2⟩ => m5 v (k5 v hv ⟨z, y1, y2⟩) ⟨z, y2, y1⟩⟩
    · refine .inl ⟨m3, fun v hv ⟨z, y1, y2⟩ => ?_⟩
      have := m4 v (k5 v hv ⟨z, y1, y2⟩)
      rw [y1] at this
      cases this
  · exact .inl k3
theorem l_277_17 {r2 : Int → xG_ → Option (Int × xG_)} {w : Int} (hf : 6300 < f) (hr : r < 25) (hnv : nv ≤ 8) (hc : c ≤ 6200) (hw : ∀ y ∈ l, wLt np nv y) : ∀ (rest : List pLt) (k fu m : Nat) (G : xG_), l.drop k = rest → k ≤ l.length → rest.length < fu → rLs G 2 r c l → G 0 39 = (r : Int) → rBn G m nv →
    ∃ G', xfv m G G' ∧ ((g277_17 r2 f fu w (k : Int) G = some (0, G') ∧ ∀ v, vXt m (G 110) v → ¬ sEq v l) ∨ (g277_17 r2 f fu w (k : Int) G = r2 w G' ∧ rBn G' (qSt rest m) nv ∧ (∀ k, m.testBit k = true → (qSt rest m).testBit k = true) ∧ ∀ v, vXt m (G 110) v → sEq v l → vXt (qSt rest m) (G' 110) v)) := by
  intro rest
  induction rest with
  | nil =>
    intro k fu m G h1 h2 h3 hL h39 hm
    obtain ⟨fu, rfl⟩ : ∃ t, fu = t + 1 := ⟨fu - 1, by have : 0 < fu := h3; omega⟩
    have hk : k = l.length := by
      have : (l.drop k).length = 0 := by rw [h1]; rfl
      rw [List.length_drop] at this
      omega
    have h19 : G 21 r = (l.length : Int) := hL.1
    refine ⟨G, .rf _ _, .inr ⟨?_, hm, fun _ q => q, fun v hv _ => hv⟩⟩
    show g277_17b r2 (g277_17 r2 f fu) f _ _ _ = _
    unfold g277_17b
    rw [h39, if_pos (by omega), Int.toNat_natCast]
    show (if G 21 r ≤ (k : Int) then _ else _) = _
    rw [h19, if_pos (by omega)]
  | cons y rest ih =>
    intro k fu m G h1 h2 h3 hL h39 hm
    have h3' : rest.length + 1 < fu := h3
    obtain ⟨fu, rfl⟩ : ∃ t, fu = t + 1 := ⟨fu - 1, by omega⟩
    have hk : k < l.length := by
      have : (l.drop k).length = (y :: rest).length := by rw [h1]
      rw [List.length_drop, List.length_cons] at this
      omega
    have hl8 := hL.2.1
    have hy : l.getD k dLt = y ∧ l.drop (k + 1) = rest := by
      rw [List.drop_eq_getElem_cons hk] at h1
      injection h1 with e1 e2
      exact ⟨by rw [getD_e hk]; exact e1, e2⟩
    have hym : y ∈ l := by
      rw [← hy.1, getD_e hk]
      exact List.getElem_mem hk
    have h19 : G 21 r = (l.length : Int) := hL.1
    have hLy := hL.2.2 k hk
    rw [hy.1] at hLy
    have hwy := hw y hym
    have ex : xwr (xwr ((r : Int) * 8) + (k : Int)) = ((8 * r + k : Nat) : Int) := by
      rw [xwr_g ((r : Int) * 8) (by omega) (by omega), xwr_g _ (by omega) (by omega)]; omega
    have ek : xwr ((k : Int) + 1) = ((k + 1 : Nat) : Int) := by rw [xwr_g _ (by omega) (by omega)]; omega
    have hxx : 0 ≤ ((8 * r + k : Nat) : Int) ∧ ((8 * r + k : Nat) : Int) < 200 := by omega
    have h27 : G 27 (8 * r + k) = y.1 := hLy.1
    have skip : qS1 y m = m → g277_17 r2 f (fu + 1) w (k : Int) G = g277_17 r2 f fu w ((k + 1 : Nat) : Int) G → ∃ G', xfv m G G' ∧ ((g277_17 r2 f (fu + 1) w (k : Int) G = some (0, G') ∧ ∀ v, vXt m (G 110) v → ¬ sEq v l) ∨ (g277_17 r2 f (fu + 1) w (k : Int) G = r2 w G' ∧ rBn G' (qSt (y :: rest) m) nv ∧ (∀ k, m.testBit k = true → (qSt (y :: rest) m).testBit k = true) ∧ ∀ v, vXt m (G 110) v → sEq v l → vXt (qSt (y :: rest) m) (G' 110) v)) := by
      intro e1 e2
      have e3 : qSt (y :: rest) m = qSt rest m := by
        show qSt rest (qS1 y m) = _
        rw [e1]
      rw [e2, e3]
      exact ih (k + 1) fu m G hy.2 (by omega) (by omega) hL h39 hm
    by_cases c3 : y.1 = 3
    · have hcs : isCs y.2.1 := by
        rcases hwy with z | z
        · omega
        · exact z.2.1
      have h28 : G 28 (8 * r + k) = rsc y.2.1 := (hLy.2.2.2 c3).1
      by_cases c61 : y.2.1 = 61
      · have e61 : rsc y.2.1 = 61 := (rsc61 hcs).mpr c61
        obtain ⟨a, z2, z3, z4, G1, r1, k1, k2, k3⟩ := l_277_s (f := f) hf hnv hc hLy c3 hwy hm
        have eqS : qS1 y m = qR1 y (qL1 y m) := by
          unfold qS1
          rw [if_pos (And.intro c3 c61)]
        have eq1 : g277_17 r2 f (fu + 1) w (k : Int) G = if r1 = 0 then some (0, G1) else (g278 f (G1 31 (8 * r + k)) (G1 32 (8 * r + k)) (G1 30 (8 * r + k)) (G1 31 (8 * r + k)) G1).bind fun R121 => (if ¬ (R121.1) = 0 then g277_17 r2 f fu w ((k + 1 : Nat) : Int) R121.2 else some (0, R121.2)) := by
          have n3 : ¬ ¬ y.1 = 3 := fun q => q c3
          show g277_17b r2 (g277_17 r2 f fu) f _ _ _ = _
          unfold g277_17b g277_159 g277_161
          rw [h39]
          simp only [Nat.reduceAdd, Int.toNat_natCast]
          rw [if_pos (by omega), h19, if_neg (by omega)]
          simp only [ex, if_pos hxx, Int.toNat_natCast]
          rw [h27, if_neg n3, h28, if_pos e61, z2, z3, z4, k1]
          simp only [Option.bind_some]
          rw [ek]
        rw [eq1]
        have no : ∀ v, (∀ z, ¬ (qEv v y.2.2.2.2.1 = some z ∧ qEv v y.2.2.2.2.2 = some z)) → ¬ sEq v l := fun v h hs => by
          obtain ⟨z, hz⟩ := sCm_eq (hs y hym c3 c61) c61
          exact h z hz
        rcases k3 with ⟨k3, k4⟩ | ⟨k3, G2, r2', m1, m2, m3⟩
        · rw [if_pos k3]
          refine ⟨G1, k2, .inl ⟨rfl, fun v hv => no v (fun z hz => ?_)⟩⟩
          rw [k4 v hv] at hz
          cases hz.2
        · rw [if_neg (by omega), k2.1 _ _ (by omega) (by omega) (by omega), k2.1 _ _ (by omega) (by omega) (by omega), k2.1 _ _ (by omega) (by omega) (by omega), z2, z3, z4, m1, Option.bind_some]
          rcases m3 with ⟨m3, m4⟩ | ⟨m3, m4, m5⟩
          · have n1 : ¬ ¬ (r2', G2).1 = 0 := fun q => q m3
            rw [if_neg n1]
            exact ⟨G2, m2, .inl ⟨rfl, fun v hv => no v (fun z hz => m4 v hv ⟨z, hz⟩)⟩⟩
          · have n1 : ¬ (r2', G2).1 = 0 := fun q => by
              have : r2' = 0 := q
              omega
            rw [if_pos n1]
            rw [← eqS] at m4 m5
            have sub : ∀ j, m.testBit j = true → (qS1 y m).testBit j = true := fun j hj => by
              rw [eqS]
              unfold qR1 qL1
              repeat' split
              all_goals simp [Nat.testBit_or, hj]
            obtain ⟨G', u1, u2⟩ := ih (k + 1) fu (qS1 y m) G2 hy.2 (by omega) (by omega) (hL.v (fun a j _ _ => m2.1 _ _ (by omega) (by omega) (by omega))) (by rw [m2.1 _ _ (by omega) (by omega) (by omega)]; exact h39) m4
            refine ⟨G', m2.tr u1 sub, ?_⟩
            have e3 : qSt (y :: rest) m = qSt rest (qS1 y m) := rfl
            rw [e3]
            rcases u2 with ⟨u2, u3⟩ | ⟨u2, u3, u4, u5⟩
            · refine .inl ⟨u2, fun v hv hs => u3 v (m5 v hv (sCm_eq (hs y hym c3 c61) c61)) hs⟩
            · exact .inr ⟨u2, u3, fun j hj => u4 j (sub j hj), fun v hv hs => u5 v (m5 v hv (sCm_eq (hs y hym c3 c61) c61)) hs⟩
      · refine skip (by unfold qS1; rw [if_neg (fun q => c61 q.2)]) ?_
        have e61 : ¬ rsc y.2.1 = 61 := fun q => c61 ((rsc61 hcs).mp q)
        have n3 : ¬ ¬ y.1 = 3 := fun q => q c3
        show g277_17b r2 (g277_17 r2 f fu) f _ _ _ = _
        unfold g277_17b g277_159 g277_161
        rw [h39]
        simp only [Nat.reduceAdd, Int.toNat_natCast]
        rw [if_pos (by omega), h19, if_neg (by omega)]
        simp only [ex, if_pos hxx, Int.toNat_natCast]
        rw [h27, if_neg n3, h28, if_neg e61, ek]
    · refine skip (by unfold qS1; rw [if_neg (fun q => c3 q.1)]) ?_
      show g277_17b r2 (g277_17 r2 f fu) f _ _ _ = _
      unfold g277_17b g277_159 g277_161
      rw [h39]
      simp only [Nat.reduceAdd, Int.toNat_natCast]
      rw [if_pos (by omega), h19, if_neg (by omega)]
      simp only [ex, if_pos hxx, Int.toNat_natCast]
      rw [h27, if_pos c3, ek]
/-- bindsAll -/
theorem l_277_2 (hf : 6300 < f) (hr : r < 25) (hnv : nv ≤ 8) (hc : c ≤ 6200) (hw : ∀ y ∈ l, wLt np nv y) : ∀ (d fu m : Nat) (w : Int) (G : xG_), 256 ≤ m + d → d + 1 < fu → w ≠ (m : Int) → rLs G 2 r c l → G 0 39 = (r : Int) → rBn G m nv →
    ∃ G' b m', g277_2 f fu w G = some (b, G') ∧ xfv m G G' ∧ ((b = 0 ∧ ∀ v, vXt m (G 110) v → ¬ sEq v l) ∨ (b = 1 ∧ rBn G' m' nv ∧ qSt l m' = m' ∧ (∀ k, m.testBit k = true → m'.testBit k = true) ∧ ∀ v, vXt m (G 110) v → sEq v l → vXt m' (G' 110) v)) := by
  intro d
  induction d with
  | zero =>
    intro fu m w G h1 h2 h3 hL h39 hm
    have := hm.2.1
    omega
  | succ d ih =>
    intro fu m w G h1 h2 h3 hL h39 hm
    obtain ⟨fu, rfl⟩ : ∃ t, fu = t + 1 := ⟨fu - 1, by omega⟩
    have e1 : g277_2 f (fu + 1) w G = g277_17 (g277_2 f fu) f f (m : Int) 0 G := by
      show g277_2b (g277_2 f fu) f _ _ = _
      unfold g277_2b
      rw [hm.1, if_neg h3]
    obtain ⟨G1, k1, k2⟩ := l_277_17 (f := f) (r2 := g277_2 f fu) (w := (m : Int)) hf hr hnv hc hw l 0 f m G rfl (Nat.zero_le _) (by have := hL.2.1; omega) hL h39 hm
    rw [e1]
    have k2' : (g277_17 (g277_2 f fu) f f (m : Int) 0 G = some (0, G1) ∧ ∀ v, vXt m (G 110) v → ¬ sEq v l) ∨ (g277_17 (g277_2 f fu) f f (m : Int) 0 G = g277_2 f fu (m : Int) G1 ∧ rBn G1 (qSt l m) nv ∧ (∀ k, m.testBit k = true → (qSt l m).testBit k = true) ∧ ∀ v, vXt m (G 110) v → sEq v l → vXt (qSt l m) (G1 110) v) := k2
    rcases k2' with ⟨k3, k4⟩ | ⟨k3, k4, k5, k6⟩
    · exact ⟨G1, 0, 0, k3, k1, .inl ⟨rfl, k4⟩⟩
    · by_cases ce : qSt l m = m
      · refine ⟨G1, 1, m, ?_, k1, .inr ⟨rfl, by rw [ce] at k4; exact k4, ce, fun _ q => q, fun v hv hs => by have := k6 v hv hs; rw [ce] at this; exact this⟩⟩
        rw [k3]
        obtain ⟨fu, rfl⟩ : ∃ t, fu = t + 1 := ⟨fu - 1, by omega⟩
        show g277_2b (g277_2 f fu) f _ _ = _
        unfold g277_2b
        rw [k4.1, ce, if_pos rfl]
      · have hlt := (qSt_lt hw hnv m hm.2.1).2
        obtain ⟨G', b, m', u1, u2, u3⟩ := ih fu (qSt l m) (m : Int) G1 (by omega) (by omega) (by omega) (hL.v (fun a j _ _ => k1.1 _ _ (by omega) (by omega) (by omega))) (by rw [k1.1 _ _ (by omega) (by omega) (by omega)]; exact h39) k4
        refine ⟨G', b, m', by rw [k3]; exact u1, k1.tr u2 k5, ?_⟩
        rcases u3 with ⟨u3, u4⟩ | ⟨u3, u4, u5, u6, u7⟩
        · exact .inl ⟨u3, fun v hv hs => u4 v (k6 v hv hs) hs⟩
        · exact .inr ⟨u3, u4, u5, fun k hk => u6 k (k5 k hk), fun v hv hs => u7 v (k6 v hv hs) hs⟩
theorem l_277 {G : xG_} (hf : 6300 < f) (hr : r < 25) (hnv : nv ≤ 8) (hc : c ≤ 6200) (hw : ∀ y ∈ l, wLt np nv y) (hL : rLs G 2 r c l) (h39 : G 0 39 = (r : Int)) (hm : rBn G m nv) :
    ∃ G' b m', g277 f G = some (b, G') ∧ xfv m G G' ∧ ((b = 0 ∧ ∀ v, vXt m (G 110) v → ¬ sEq v l) ∨ (b = 1 ∧ rBn G' m' nv ∧ qSt l m' = m' ∧ (∀ k, m.testBit k = true → m'.testBit k = true) ∧ ∀ v, vXt m (G 110) v → sEq v l → vXt m' (G' 110) v)) := by
  unfold g277
  exact l_277_2 hf hr hnv hc hw 256 f m (-1) G (by omega) (by omega) (by omega) hL h39 hm
end
/-- what is closed under = holds all that is bound -/
theorem qS1_mo {y : pLt} {s t : Nat} (h : ∀ k, s.testBit k = true → t.testBit k = true) : ∀ k, (qS1 y s).testBit k = true → (qS1 y t).testBit k = true := by
  have l1 : ∀ {s t : Nat}, (∀ k, s.testBit k = true → t.testBit k = true) → ∀ k, (qL1 y s).testBit k = true → (qL1 y t).testBit k = true := by
    intro s t h k hk
    unfold qL1 at hk ⊢
    by_cases c1 : qAl2 y.2.2.2.2.1 ∧ qSub (qVm y.2.2.2.2.2) s
    · have c2 : qAl2 y.2.2.2.2.1 ∧ qSub (qVm y.2.2.2.2.2) t := ⟨c1.1, qSub_t.mpr (fun j hj => h j (qSub_t.mp c1.2 j hj))⟩
      rw [if_pos c1, Nat.testBit_or, Bool.or_eq_true] at hk
      rw [if_pos c2, Nat.testBit_or, Bool.or_eq_true]
      exact hk.imp (h k) id
    · rw [if_neg c1] at hk
      by_cases c2 : qAl2 y.2.2.2.2.1 ∧ qSub (qVm y.2.2.2.2.2) t
      · rw [if_pos c2, Nat.testBit_or, h k hk, Bool.true_or]
      · rw [if_neg c2]; exact h k hk
  have r1 : ∀ {s t : Nat}, (∀ k, s.testBit k = true → t.testBit k = true) → ∀ k, (qR1 y s).testBit k = true → (qR1 y t).testBit k = true := by
    intro s t h k hk
    unfold qR1 at hk ⊢
    by_cases c1 : qAl2 y.2.2.2.2.2 ∧ qSub (qVm y.2.2.2.2.1) s
    · have c2 : qAl2 y.2.2.2.2.2 ∧ qSub (qVm y.2.2.2.2.1) t := ⟨c1.1, qSub_t.mpr (fun j hj => h j (qSub_t.mp c1.2 j hj))⟩
      rw [if_pos c1, Nat.testBit_or, Bool.or_eq_true] at hk
      rw [if_pos c2, Nat.testBit_or, Bool.or_eq_true]
      exact hk.imp (h k) id
    · rw [if_neg c1] at hk
      by_cases c2 : qAl2 y.2.2.2.2.2 ∧ qSub (qVm y.2.2.2.2.1) t
      · rw [if_pos c2, Nat.testBit_or, h k hk, Bool.true_or]
      · rw [if_neg c2]; exact h k hk
  intro k hk
  unfold qS1 at hk ⊢
  by_cases c : y.1 = 3 ∧ y.2.1 = 61
  · rw [if_pos c] at hk ⊢
    exact r1 (l1 h) k hk
  · rw [if_neg c] at hk ⊢
    exact h k hk
theorem qSt_mo : ∀ (l : List pLt) {s t : Nat}, (∀ k, s.testBit k = true → t.testBit k = true) → ∀ k, (qSt l s).testBit k = true → (qSt l t).testBit k = true
  | [], _, _, h => h
  | y :: l, _, _, h => qSt_mo l (qS1_mo h)
theorem qIt_in {l : List pLt} {t : Nat} (ht : qSt l t = t) : ∀ (n s : Nat), (∀ k, s.testBit k = true → t.testBit k = true) → ∀ k, (qIt l n s).testBit k = true → t.testBit k = true
  | 0, _, h => h
  | n + 1, s, h => by
    unfold qIt
    by_cases c : qSt l s = s
    · rw [if_pos c]; exact h
    · rw [if_neg c]
      refine qIt_in ht n _ (fun k hk => ?_)
      have := qSt_mo l h k hk
      rw [ht] at this
      exact this
theorem qBd_in {l : List pLt} {t : Nat} (ht : qSt l t = t) (h : ∀ k, (qA l).testBit k = true → t.testBit k = true) : ∀ k, (qBd l).testBit k = true → t.testBit k = true := qIt_in ht 256 _ h
end
