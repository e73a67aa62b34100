/-! The reference's facts: one more, one less, all copied -/
/-- the fact at i in G is the one at i' in G' -/
def fRw (b : Nat) (G : xG_) (i : Nat) (G' : xG_) (i' : Nat) : Prop := G' (b + 1) i' = G (b + 1) i ∧ G' (b + 3) i' = G (b + 3) i ∧ ∀ j, j < 4 → G' (b + 2) (4 * i' + j) = G (b + 2) (4 * i + j)
def xfy (b : Nat) (G G' : xG_) : Prop := ∀ a j, ¬ (a = b ∧ j = 3) → a ≠ b + 1 → a ≠ b + 2 → a ≠ b + 3 → G' a j = G a j
theorem fRw.tr {b i j k : Nat} {G G1 G2 : xG_} (h1 : fRw b G i G1 j) (h2 : fRw b G1 j G2 k) : fRw b G i G2 k := ⟨h2.1.trans h1.1, h2.2.1.trans h1.2.1, fun m hm => (h2.2.2 m hm).trans (h1.2.2 m hm)⟩
theorem fRw.rf (b i : Nat) (G : xG_) : fRw b G i G i := ⟨rfl, rfl, fun _ _ => rfl⟩
section
variable {f b : Nat}
theorem l_200_26 {x y : Nat} (hx : x < 3400) (hy : y < 3400) : ∀ (d k fu : Nat) (G : xG_), k + d = 4 → d < fu → ∃ G', g200_26 f fu b (x : Int) (y : Int) (k : Int) G = some G' ∧ (∀ j, k ≤ j → j < 4 → x ≠ y → G' (b + 2) (4 * y + j) = G (b + 2) (4 * x + j)) ∧ ∀ a j, ¬ (a = b + 2 ∧ 4 * y + k ≤ j ∧ j < 4 * y + 4) → G' a j = G a j := by
  intro d
  induction d with
  | zero =>
    intro k fu G hk hfu
    obtain ⟨fu, rfl⟩ : ∃ t, fu = t + 1 := ⟨fu - 1, by omega⟩
    refine ⟨G, ?_, fun j _ _ _ => by omega, fun _ _ _ => rfl⟩
    show g200_26b (g200_26 f fu) f _ _ _ _ _ = _
    unfold g200_26b
    rw [if_pos (by omega)]
  | succ d ih =>
    intro k fu G hk hfu
    obtain ⟨fu, rfl⟩ : ∃ t, fu = t + 1 := ⟨fu - 1, by omega⟩
    obtain ⟨G', k1, k2, k3⟩ := ih (k + 1) fu (xup2 G (b + 2) (4 * y + k) (G (b + 2) (4 * x + k))) (by omega) (by omega)
    have e1 : xwr ((xwr (4 * (x : Int))) + (k : Int)) = ((4 * x + k : Nat) : Int) := by
      rw [xwr_g (4 * (x : Int)) (by omega) (by omega), xwr_g _ (by omega) (by omega)]; omega
    have e2 : xwr ((xwr (4 * (y : Int))) + (k : Int)) = ((4 * y + k : Nat) : Int) := by
      rw [xwr_g (4 * (y : Int)) (by omega) (by omega), xwr_g _ (by omega) (by omega)]; omega
    have e3 : xwr ((k : Int) + 1) = ((k + 1 : Nat) : Int) := by rw [xwr_g _ (by omega) (by omega)]; omega
    refine ⟨G', ?_, fun j h1 h2 h3 => ?_, fun a j h => ?_⟩
    · show g200_26b (g200_26 f fu) f _ _ _ _ _ = _
      unfold g200_26b
      rw [if_neg (by omega), e1, e2, if_pos (by omega), if_pos (by omega), Int.toNat_natCast, Int.toNat_natCast, Option.bind_some, e3]
      exact k1
    · by_cases c : j = k
      · rw [c, k3 _ _ (by omega), xup2_s]
      · rw [k2 j (by omega) h2 h3, xup2_n (by omega)]
    · rw [k3 a j (by omega), xup2_n (by omega)]
/-- move -/
theorem l_200 {x y : Nat} (hf : 10 < f) (hx : x < 3400) (hy : y < 3400) (hxy : x ≠ y) (G : xG_) : ∃ G', g200 f b (x : Int) (y : Int) G = some G' ∧ fRw b G x G' y ∧ (∀ i, i ≠ y → fRw b G i G' i) ∧ ∀ a j, a ≠ b + 1 → a ≠ b + 2 → a ≠ b + 3 → G' a j = G a j := by
  obtain ⟨G', k1, k2, k3⟩ := l_200_26 (f := f) (b := b) hx hy 4 0 f (xup2 (xup2 G (b + 1) y (G (b + 1) x)) (b + 3) y (G (b + 3) x)) (by omega) (by omega)
  refine ⟨G', ?_, ⟨?_, ?_, fun j hj => ?_⟩, fun i hi => ⟨?_, ?_, fun j hj => ?_⟩, fun a j h1 h2 h3 => ?_⟩
  · unfold g200
    rw [if_pos (by omega), if_pos (by omega), Int.toNat_natCast, Int.toNat_natCast, Option.bind_some, if_pos (by omega), if_pos (by omega), xup2_n (by omega), Option.bind_some]
    exact k1
  · rw [k3 _ _ (by omega), xup2_n (by omega), xup2_s]
  · rw [k3 _ _ (by omega), xup2_s]
  · rw [k2 j (by omega) hj hxy, xup2_n (by omega), xup2_n (by omega)]
  · rw [k3 _ _ (by omega), xup2_n (by omega), xup2_n (by omega)]
  · rw [k3 _ _ (by omega), xup2_n (by omega), xup2_n (by omega)]
  · rw [k3 _ _ (by omega), xup2_n (by omega), xup2_n (by omega)]
  · rw [k3 _ _ (by omega), xup2_n (by omega), xup2_n (by omega)]
theorem l_198_62 {u w : Int} {c : Nat} {i : Int} {k : Nat} (hf : 10 < f) : ∀ (d fu : Nat) (G : xG_), k + d < 3400 → d < fu → ∃ G' fu', g198_62 f fu b u w c i (k : Int) ((k + d : Nat) : Int) G = g198_62 f (fu' + 1) b u w c i (k : Int) (k : Int) G' ∧ (∀ j, k ≤ j → j < k + d → fRw b G j G' (j + 1)) ∧ (∀ j, j < k ∨ k + d < j → fRw b G j G' j) ∧ ∀ a j, a ≠ b + 1 → a ≠ b + 2 → a ≠ b + 3 → G' a j = G a j := by
  intro d
  induction d with
  | zero =>
    intro fu G h1 h2
    obtain ⟨fu, rfl⟩ : ∃ t, fu = t + 1 := ⟨fu - 1, by omega⟩
    exact ⟨G, fu, rfl, fun j _ _ => by omega, fun j _ => .rf _ _ _, fun _ _ _ _ _ => rfl⟩
  | succ d ih =>
    intro fu G h1 h2
    obtain ⟨fu, rfl⟩ : ∃ t, fu = t + 1 := ⟨fu - 1, by omega⟩
    obtain ⟨G1, q1, q2, q3, q4⟩ := l_200 (f := f) (b := b) (x := k + d) (y := k + (d + 1)) hf (by omega) (by omega) (by omega) G
    obtain ⟨G', fu', k1, k2, k3, k4⟩ := ih fu G1 (by omega) (by omega)
    have e1 : xwr (((k + (d + 1) : Nat) : Int) - 1) = ((k + d : Nat) : Int) := by rw [xwr_g _ (by omega) (by omega)]; omega
    have e2 : xwr (((k + (d + 1) : Nat) : Int) + -1) = ((k + d : Nat) : Int) := by rw [xwr_g _ (by omega) (by omega)]; omega
    refine ⟨G', fu', ?_, fun j h1 h2 => ?_, fun j h => ?_, fun a j h1 h2 h3 => by rw [k4 a j h1 h2 h3, q4 a j h1 h2 h3]⟩
    · rw [← k1]
      show g198_62b (g198_62 f fu) f _ _ _ _ _ _ _ _ = _
      unfold g198_62b
      rw [if_neg (by omega), e1, q1, Option.bind_some, e2]
    · by_cases cj : j = k + d
      · rw [cj]
        exact q2.tr (k3 _ (by omega))
      · exact (q3 j (by omega)).tr (k2 j (by omega) (by omega))
    · exact (q3 j (by omega)).tr (k3 j (by omega))
theorem l_198_104 {c i m k : Nat} {vs : List Int} {G0 : xG_} (hl : ((xl_t (b + 2)).2.2 : Int) = 13600) (hk : k < 3400) (hm : vs.length = m) (hm4 : m ≤ 4) (hc : c ≠ b) (hc2 : c ≠ b + 2) (hv : rVe G0 c i vs) : ∀ (d j fu : Nat) (G : xG_), j + d = 4 → d < fu → (∀ z, G c z = G0 c z) → 0 ≤ G b 3 → G b 3 < 3400 →
    ∃ G', g198_104 f fu b (m : Int) c (i : Int) (k : Int) (j : Int) G = some G' ∧ G' b 3 = G b 3 + 1 ∧ (∀ z, j ≤ z → z < 4 → G' (b + 2) (4 * k + z) = vs.getD z 0) ∧ ∀ a z, ¬ (a = b ∧ z = 3) → ¬ (a = b + 2 ∧ 4 * k + j ≤ z ∧ z < 4 * k + 4) → G' a z = G a z := by
  obtain ⟨v1, v2, v3, v4⟩ := hv
  intro d
  induction d with
  | zero =>
    intro j fu G hj hfu he h0 h1
    obtain ⟨fu, rfl⟩ : ∃ t, fu = t + 1 := ⟨fu - 1, by omega⟩
    refine ⟨xup2 G b 3 (G b 3 + 1), ?_, xup2_s _ _ _ _, fun z _ _ => by omega, fun a z h1 _ => xup2_n h1⟩
    show g198_104b (g198_104 f fu) f _ _ _ _ _ _ _ = _
    unfold g198_104b
    rw [if_pos (by omega), xwr_g _ (by omega) (by omega)]
    rfl
  | succ d ih =>
    intro j fu G hj hfu he h0 h1
    obtain ⟨fu, rfl⟩ : ∃ t, fu = t + 1 := ⟨fu - 1, by omega⟩
    have e4 : xwr ((xwr (4 * (k : Int))) + (j : Int)) = ((4 * k + j : Nat) : Int) := by
      rw [xwr_g (4 * (k : Int)) (by omega) (by omega), xwr_g _ (by omega) (by omega)]; omega
    have e1 : xwr ((j : Int) + 1) = ((j + 1 : Nat) : Int) := by rw [xwr_g _ (by omega) (by omega)]; omega
    have step : g198_104 f (fu + 1) b (m : Int) c (i : Int) (k : Int) (j : Int) G = g198_104 f fu b (m : Int) c (i : Int) (k : Int) ((j + 1 : Nat) : Int) (xup2 G (b + 2) (4 * k + j) (vs.getD j 0)) := by
      show g198_104b (g198_104 f fu) f _ _ _ _ _ _ _ = _
      unfold g198_104b g198_139
      rw [if_neg (by omega), e4, hl, e1, Int.toNat_natCast]
      by_cases cj : m ≤ j
      · have ev : vs.getD j 0 = 0 := by rw [List.getD_eq_getElem?_getD, List.getElem?_eq_none (by omega)]; rfl
        rw [if_pos (by omega), if_pos (by omega), ev]
        rfl
      · have ec : xwr ((i : Int) + (j : Int)) = ((i + j : Nat) : Int) := by rw [xwr_g _ (by omega) (by omega)]; omega
        rw [if_neg (by omega), ec, if_pos (by omega), if_pos (by omega), Int.toNat_natCast, he, v4 j (by omega)]
        rfl
    obtain ⟨G', k1, k2, k3, k4⟩ := ih (j + 1) fu (xup2 G (b + 2) (4 * k + j) (vs.getD j 0)) (by omega) (by omega) (fun z => by rw [xup2_n (by omega)]; exact he z) (by rw [xup2_n (by omega)]; exact h0) (by rw [xup2_n (by omega)]; exact h1)
    refine ⟨G', by rw [step]; exact k1, by rw [k2, xup2_n (by omega)], fun z h1 h2 => ?_, fun a z h1 h2 => by rw [k4 a z h1 (by omega), xup2_n (by omega)]⟩
    by_cases cz : z = j
    · rw [cz, k4 _ _ (by omega) (by omega), xup2_s]
    · exact k3 z (by omega) h2
end
theorem getD_ins {α : Type} {l : List α} {x d : α} {k i : Nat} (hk : k ≤ l.length) : (l.take k ++ x :: l.drop k).getD i d = if i < k then l.getD i d else if i = k then x else l.getD (i - 1) d := by
  have hlt : (l.take k).length = k := by rw [List.length_take]; omega
  by_cases c1 : i < k
  · rw [if_pos c1, List.getD_eq_getElem?_getD, List.getElem?_append_left (by omega), List.getElem?_take_of_lt c1, ← List.getD_eq_getElem?_getD]
  · rw [if_neg c1, List.getD_eq_getElem?_getD, List.getElem?_append_right (by omega), hlt]
    by_cases c2 : i = k
    · rw [if_pos c2, c2, Nat.sub_self]
      rfl
    · obtain ⟨m, rfl⟩ : ∃ m, i = k + 1 + m := ⟨i - (k + 1), by omega⟩
      rw [if_neg c2, show k + 1 + m - k = m + 1 by omega, List.getElem?_cons_succ, List.getElem?_drop, show k + 1 + m - 1 = k + m by omega, ← List.getD_eq_getElem?_getD]
theorem getD_del {α : Type} {l : List α} {d : α} {k i : Nat} (hk : k < l.length) : (l.take k ++ l.drop (k + 1)).getD i d = if i < k then l.getD i d else l.getD (i + 1) d := by
  have hlt : (l.take k).length = k := by rw [List.length_take]; omega
  by_cases c1 : i < k
  · rw [if_pos c1, List.getD_eq_getElem?_getD, List.getElem?_append_left (by omega), List.getElem?_take_of_lt c1, ← List.getD_eq_getElem?_getD]
  · rw [if_neg c1, List.getD_eq_getElem?_getD, List.getElem?_append_right (by omega), hlt, List.getElem?_drop, show k + 1 + (i - k) = i + 1 by omega, ← List.getD_eq_getElem?_getD]
theorem len_ins {α : Type} {l : List α} {x : α} {k : Nat} (hk : k ≤ l.length) : (l.take k ++ x :: l.drop k).length = l.length + 1 := by
  rw [List.length_append, List.length_cons, List.length_take, List.length_drop]
  omega
theorem len_del {α : Type} {l : List α} {k : Nat} (hk : k < l.length) : (l.take k ++ l.drop (k + 1)).length = l.length - 1 := by
  rw [List.length_append, List.length_take, List.length_drop]
  omega
section
variable {f b c i : Nat} {G : xG_} {F : List pFc} {x : pFc}
theorem rFa.at {k : Nat} (h : rFa G b F) (hk : k < F.length) {G' : xG_} {k' : Nat} (hr : fRw b G k G' k') : G' (b + 1) k' = (F.getD k dFc).1 ∧ G' (b + 3) k' = ((F.getD k dFc).2.length : Int) ∧ (F.getD k dFc).2.length ≤ 4 ∧ ∀ j, j < 4 → G' (b + 2) (4 * k' + j) = (F.getD k dFc).2.getD j 0 := by
  obtain ⟨q1, q2, q3, q4⟩ := h.2.2 k hk
  exact ⟨by rw [hr.1]; exact q1, by rw [hr.2.1]; exact q2, q3, fun j hj => by rw [hr.2.2 j hj]; exact q4 j hj⟩
theorem fPl.srt {k : Nat} (hs : F.Pairwise fLt) (h : fPl F x k) (hx : x ∉ F) : (F.take k ++ x :: F.drop k).Pairwise fLt := by
  obtain ⟨h1, h2, h3⟩ := h
  refine srt_ins hs (fun y hy => ?_) (fun y hy => ?_)
  · obtain ⟨j, hj, rfl⟩ := List.getElem_of_mem hy
    rw [List.length_take] at hj
    rw [List.getElem_take]
    have := h2 j (by omega)
    rw [getD_e (by omega : j < F.length)] at this
    exact this
  · obtain ⟨j, hj, rfl⟩ := List.getElem_of_mem hy
    rw [List.length_drop] at hj
    rw [List.getElem_drop]
    have h4 := h3 (k + j) (by omega) (by omega)
    rw [getD_e (by omega : k + j < F.length)] at h4
    rcases fLt_tot (F[k + j]) x with e | e | e
    · exact absurd e h4
    · exact absurd (e ▸ List.getElem_mem _) hx
    · exact e
/-- add -/
theorem l_198 (hf : 3500 < f) (hb : isFb b) (h : rFa G b F) (hs : F.Pairwise fLt) (hx : rVe G c i x.2) (hx4 : x.2.length ≤ 4) (hc : c ≠ b ∧ c ≠ b + 1 ∧ c ≠ b + 2 ∧ c ≠ b + 3) (hl : F.length < 3400) :
    ∃ G' F', g198 f b x.1 (x.2.length : Int) c (i : Int) G = some G' ∧ rFa G' b F' ∧ F'.Pairwise fLt ∧ (∀ y, y ∈ F' ↔ y ∈ F ∨ y = x) ∧ (F' = F ∨ F'.length = F.length + 1) ∧ xfy b G G' := by
  obtain ⟨k, e1, e2⟩ := l_196 hf hb h hs hx
  have hm := e2.mem hs
  have hk := e2.1
  by_cases c0 : x ∈ F
  · obtain ⟨c1, c2⟩ := hm.mp c0
    obtain ⟨q1, q2, q3, q4⟩ := h.2.2 _ c1
    have e4 : xwr (4 * (k : Int)) = ((4 * k : Nat) : Int) := by rw [xwr_g _ (by omega) (by omega)]; omega
    refine ⟨G, F, ?_, h, hs, fun y => ⟨.inl, fun q => q.elim id (fun q => q ▸ c0)⟩, .inl rfl, fun _ _ _ _ _ _ => rfl⟩
    unfold g198
    rw [e1, Option.bind_some]
    show (if G b 3 ≤ (k : Int) then _ else _) = _
    rw [h.1, if_neg (by omega), if_pos (by omega), if_pos (by omega)]
    show Option.bind (g195 f (G (b + 1) ((k : Int)).toNat) (G (b + 3) ((k : Int)).toNat) (b + 2) (xwr (4 * (k : Int))) _ _ _ _ G) _ = _
    rw [Int.toNat_natCast, q1, q2, e4, l_195 (by omega) (h.ve hb c1) hx, Option.bind_some]
    have c3 : ¬ ¬ (fCmp ((F.getD k dFc).1, (F.getD k dFc).2) (x.1, x.2), G).1 = 0 := fun q => q (by rw [c2]; exact fCmp_self x)
    rw [if_neg c3]
  · have eq : g198 f b x.1 (x.2.length : Int) c (i : Int) G = g198_62 f f b x.1 (x.2.length : Int) c (i : Int) (k : Int) ((k + (F.length - k) : Nat) : Int) G := by
      have e9 : g198_56 f b x.1 (x.2.length : Int) c (i : Int) (k : Int) G = g198_62 f f b x.1 (x.2.length : Int) c (i : Int) (k : Int) ((k + (F.length - k) : Nat) : Int) G := by
        unfold g198_56
        rw [h.1, show k + (F.length - k) = F.length by omega]
      rw [← e9]
      unfold g198
      rw [e1, Option.bind_some]
      show (if G b 3 ≤ (k : Int) then _ else _) = _
      rw [h.1]
      by_cases c1 : k < F.length
      · obtain ⟨q1, q2, q3, q4⟩ := h.2.2 _ c1
        have e4 : xwr (4 * (k : Int)) = ((4 * k : Nat) : Int) := by rw [xwr_g _ (by omega) (by omega)]; omega
        rw [if_neg (by omega), if_pos (by omega), if_pos (by omega)]
        show Option.bind (g195 f (G (b + 1) ((k : Int)).toNat) (G (b + 3) ((k : Int)).toNat) (b + 2) (xwr (4 * (k : Int))) _ _ _ _ G) _ = _
        rw [Int.toNat_natCast, q1, q2, e4, l_195 (by omega) (h.ve hb c1) hx, Option.bind_some]
        have c3 : ¬ (fCmp ((F.getD k dFc).1, (F.getD k dFc).2) (x.1, x.2), G).1 = 0 := fun q => c0 (hm.mpr ⟨c1, fCmp_eq q⟩)
        rw [if_pos c3]
      · rw [if_pos (by omega)]
    obtain ⟨G1, fu, a1, a2, a3, a4⟩ := l_198_62 (f := f) (b := b) (u := x.1) (w := (x.2.length : Int)) (c := c) (i := (i : Int)) (k := k) (by omega) (F.length - k) f G (by omega) (by omega)
    obtain ⟨G2, b1, b2, b3, b4⟩ := l_198_104 (f := f) (b := b) (c := c) (i := i) (m := x.2.length) (k := k) (vs := x.2) (G0 := G) hb.len (by omega) rfl hx4 hc.1 hc.2.2.1 hx 4 0 f (xup2 (xup2 G1 (b + 1) k x.1) (b + 3) k (x.2.length : Int)) (by omega) (by omega) (fun z => by rw [xup2_n (by omega), xup2_n (by omega), a4 _ _ (by omega) (by omega) (by omega)]) (by rw [xup2_n (by omega), xup2_n (by omega), a4 _ _ (by omega) (by omega) (by omega), h.1]; omega) (by rw [xup2_n (by omega), xup2_n (by omega), a4 _ _ (by omega) (by omega) (by omega), h.1]; omega)
    have b2' : G2 b 3 = ((F.length + 1 : Nat) : Int) := by
      rw [b2, xup2_n (by omega), xup2_n (by omega), a4 _ _ (by omega) (by omega) (by omega), h.1]
      omega
    have keep : ∀ j, j ≠ k → fRw b G1 j G2 j := fun j hj => ⟨by rw [b4 _ _ (by omega) (by omega), xup2_n (by omega), xup2_n (by omega)], by rw [b4 _ _ (by omega) (by omega), xup2_n (by omega), xup2_n (by omega)], fun z hz => by rw [b4 _ _ (by omega) (by omega), xup2_n (by omega), xup2_n (by omega)]⟩
    refine ⟨G2, F.take k ++ x :: F.drop k, ?_, ⟨by rw [len_ins hk]; exact b2', by rw [len_ins hk]; omega, fun j hj => ?_⟩, e2.srt hs c0, fun y => srt_ins_mem, .inr (len_ins hk), fun a j h1 h2 h3 h4 => ?_⟩
    · rw [eq, a1]
      show g198_62b (g198_62 f fu) f _ _ _ _ _ _ _ _ = _
      unfold g198_62b
      rw [if_pos (by omega), if_pos (by omega), Int.toNat_natCast, Option.bind_some, if_pos (by omega), Option.bind_some]
      exact b1
    · rw [len_ins hk] at hj
      rw [getD_ins hk]
      by_cases j1 : j < k
      · rw [if_pos j1]
        exact h.at (by omega) ((a3 j (by omega)).tr (keep j (by omega)))
      · rw [if_neg j1]
        by_cases j2 : j = k
        · rw [if_pos j2, j2]
          exact ⟨by rw [b4 _ _ (by omega) (by omega), xup2_n (by omega), xup2_s], by rw [b4 _ _ (by omega) (by omega), xup2_s], hx4, fun z hz => b3 z (by omega) hz⟩
        · rw [if_neg j2]
          obtain ⟨j, rfl⟩ : ∃ t, j = t + 1 := ⟨j - 1, by omega⟩
          rw [Nat.add_sub_cancel]
          exact h.at (by omega) ((a2 j (by omega) (by omega)).tr (keep (j + 1) (by omega)))
    · rw [b4 _ _ h1 (by omega), xup2_n (by omega), xup2_n (by omega), a4 a j h2 h3 h4]
end
