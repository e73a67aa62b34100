/-! The answers of a QUERY -/
/-- the answers S so far, nv VARIABLES each -/
def rAn (G : xG_) (nv : Nat) (S : List (List Int)) : Prop := G 0 52 = (S.length : Int) ∧ S.length ≤ 500 ∧ ∀ i, i < S.length → (S.getD i []).length = nv ∧ ∀ k, k < nv → G 116 (8 * i + k) = (S.getD i []).getD k 0
def vLe (a b : List Int) : Prop := vCmp a b ≤ 0
theorem xl116 : ((xl_t 116).2.2 : Int) = 4008 := by decide +kernel
theorem xl110 : ((xl_t 110).2.2 : Int) = 8 := by decide +kernel
section
variable {f nv : Nat}
theorem l_285_62 {r31 : Int → xG_ → Option xG_} {i : Nat} (hi : i < 500) : ∀ (d k fu : Nat) (G : xG_), k + d = 8 → d < fu →
    ∃ G', g285_62 r31 f fu ((i + 1 : Nat) : Int) (k : Int) G = r31 (i : Int) G' ∧ (∀ z, k ≤ z → z < 8 → G' 116 (8 * (i + 1) + z) = G 116 (8 * i + z)) ∧ ∀ a j, ¬ (a = 116 ∧ 8 * (i + 1) + k ≤ j ∧ j < 8 * (i + 1) + 8) → G' a j = G a j := by
  intro d
  induction d with
  | zero =>
    intro k fu G h1 h2
    obtain ⟨fu, rfl⟩ : ∃ t, fu = t + 1 := ⟨fu - 1, by omega⟩
    have e : xwr (((i + 1 : Nat) : Int) + -1) = (i : Int) := by rw [xwr_g _ (by omega) (by omega)]; omega
    refine ⟨G, ?_, fun z z1 z2 => by omega, fun _ _ _ => rfl⟩
    show g285_62b r31 (g285_62 r31 f fu) f _ _ _ = _
    unfold g285_62b
    rw [if_pos (by omega), e]
  | succ d ih =>
    intro k fu G h1 h2
    obtain ⟨fu, rfl⟩ : ∃ t, fu = t + 1 := ⟨fu - 1, by omega⟩
    have ek : xwr ((k : Int) + 1) = ((k + 1 : Nat) : Int) := by rw [xwr_g _ (by omega) (by omega)]; omega
    have e1 : xwr (xwr (8 * xwr (((i + 1 : Nat) : Int) - 1)) + (k : Int)) = ((8 * i + k : Nat) : Int) := by
      rw [xwr_g (((i + 1 : Nat) : Int) - 1) (by omega) (by omega), xwr_g (8 * (((i + 1 : Nat) : Int) - 1)) (by omega) (by omega), xwr_g _ (by omega) (by omega)]; omega
    have e2 : xwr (xwr (8 * ((i + 1 : Nat) : Int)) + (k : Int)) = ((8 * (i + 1) + k : Nat) : Int) := by
      rw [xwr_g (8 * ((i + 1 : Nat) : Int)) (by omega) (by omega), xwr_g _ (by omega) (by omega)]; omega
    obtain ⟨G', u1, u2, u3⟩ := ih (k + 1) fu (xup2 G 116 (8 * (i + 1) + k) (G 116 (8 * i + k))) (by omega) (by omega)
    refine ⟨G', ?_, fun z z1 z2 => ?_, fun a j q => by rw [u3 a j (by omega), xup2_n (by omega)]⟩
    · show g285_62b r31 (g285_62 r31 f fu) f _ _ _ = _
      unfold g285_62b
      rw [if_neg (by omega), e1, e2, if_pos (by omega), if_pos (by omega), Int.toNat_natCast, Int.toNat_natCast, Option.bind_some, ek]
      exact u1
    · by_cases c : z = k
      · rw [c, u3 _ _ (by omega), xup2_s]
      · rw [u2 z (by omega) z2, xup2_n (by omega)]
theorem l_285_106 {i c : Nat} (hi : i ≤ 500) (hc : c < 1000) : ∀ (d k fu : Nat) (G : xG_), k + d = 8 → d < fu → G 0 52 = (c : Int) →
    ∃ G', g285_106 f fu (i : Int) (k : Int) G = some G' ∧ G' 0 52 = ((c + 1 : Nat) : Int) ∧ (∀ z, k ≤ z → z < 8 → G' 116 (8 * i + z) = G 110 z) ∧ ∀ a j, ¬ (a = 0 ∧ j = 52) → ¬ (a = 116 ∧ 8 * i + k ≤ j ∧ j < 8 * i + 8) → G' a j = G a j := by
  intro d
  induction d with
  | zero =>
    intro k fu G h1 h2 h3
    obtain ⟨fu, rfl⟩ : ∃ t, fu = t + 1 := ⟨fu - 1, by omega⟩
    have e : xwr ((c : Int) + 1) = ((c + 1 : Nat) : Int) := by rw [xwr_g _ (by omega) (by omega)]; omega
    refine ⟨xup2 G 0 52 ((c + 1 : Nat) : Int), ?_, xup2_s _ _ _ _, fun z z1 z2 => by omega, fun a j q1 q2 => xup2_n (by omega)⟩
    show g285_106b (g285_106 f fu) f _ _ _ = _
    unfold g285_106b
    rw [if_pos (by omega), h3, e]
    rfl
  | succ d ih =>
    intro k fu G h1 h2 h3
    obtain ⟨fu, rfl⟩ : ∃ t, fu = t + 1 := ⟨fu - 1, by omega⟩
    have ek : xwr ((k : Int) + 1) = ((k + 1 : Nat) : Int) := by rw [xwr_g _ (by omega) (by omega)]; omega
    have e2 : xwr (xwr (8 * (i : Int)) + (k : Int)) = ((8 * i + k : Nat) : Int) := by
      rw [xwr_g (8 * (i : Int)) (by omega) (by omega), xwr_g _ (by omega) (by omega)]; omega
    obtain ⟨G', u1, u4, u2, u3⟩ := ih (k + 1) fu (xup2 G 116 (8 * i + k) (G 110 k)) (by omega) (by omega) (by rw [xup2_n (by omega)]; exact h3)
    refine ⟨G', ?_, u4, fun z z1 z2 => ?_, fun a j q1 q2 => by rw [u3 a j q1 (by omega), xup2_n (by omega)]⟩
    · show g285_106b (g285_106 f fu) f _ _ _ = _
      unfold g285_106b
      rw [if_neg (by omega), if_pos (by omega), e2, if_pos (by omega), Int.toNat_natCast, Int.toNat_natCast, Option.bind_some, ek]
      exact u1
    · by_cases c : z = k
      · rw [c, u3 _ _ (by omega) (by omega), xup2_s]
      · rw [u2 z (by omega) z2, xup2_n (by omega)]
/-- v comes to its place -/
theorem l_285_31 {S : List (List Int)} {v : List Int} (hf : 600 < f) (hnv : nv ≤ 8) (hS : S.length < 500) (hl : ∀ t, t < S.length → (S.getD t []).length = nv) (hv : v.length = nv) : ∀ (i fu : Nat) (G : xG_), i ≤ S.length → i < fu → G 0 52 = (S.length : Int) → G 0 53 = (nv : Int) → (∀ k, k < nv → G 110 k = v.getD k 0) → (∀ t, t < i → ∀ k, k < nv → G 116 (8 * t + k) = (S.getD t []).getD k 0) → (∀ t, i ≤ t → t < S.length → (∀ k, k < nv → G 116 (8 * (t + 1) + k) = (S.getD t []).getD k 0) ∧ 0 < vCmp (S.getD t []) v) →
    ∃ G' j, g285_31 f fu (i : Int) G = some G' ∧ j ≤ S.length ∧ rAn G' nv (S.take j ++ v :: S.drop j) ∧ (∀ t, t + 1 = j → vCmp (S.getD t []) v ≤ 0) ∧ (∀ t, j ≤ t → t < S.length → 0 < vCmp (S.getD t []) v) ∧ ∀ a b, ¬ (a = 0 ∧ b = 52) → a ≠ 116 → G' a b = G a b := by
  -- it is put down at i
  have put : ∀ (i fu : Nat) (G : xG_), i ≤ S.length → G 0 52 = (S.length : Int) → (∀ k, k < nv → G 110 k = v.getD k 0) → (∀ t, t < i → ∀ k, k < nv → G 116 (8 * t + k) = (S.getD t []).getD k 0) → (∀ t, i ≤ t → t < S.length → (∀ k, k < nv → G 116 (8 * (t + 1) + k) = (S.getD t []).getD k 0) ∧ 0 < vCmp (S.getD t []) v) → (∀ t, t + 1 = i → vCmp (S.getD t []) v ≤ 0) → g285_31 f fu (i : Int) G = g285_104 f (i : Int) G → ∃ G' j, g285_31 f fu (i : Int) G = some G' ∧ j ≤ S.length ∧ rAn G' nv (S.take j ++ v :: S.drop j) ∧ (∀ t, t + 1 = j → vCmp (S.getD t []) v ≤ 0) ∧ (∀ t, j ≤ t → t < S.length → 0 < vCmp (S.getD t []) v) ∧ ∀ a b, ¬ (a = 0 ∧ b = 52) → a ≠ 116 → G' a b = G a b := fun i fu G h1 h3 h5 h6 h7 h8 he => by
    obtain ⟨G', u1, u2, u3, u4⟩ := l_285_106 (f := f) (i := i) (c := S.length) (by omega) (by omega) 8 0 f G rfl (by omega) h3
    have hlen : (S.take i ++ v :: S.drop i).length = S.length + 1 := by
      rw [List.length_append, List.length_cons, List.length_take, List.length_drop]; omega
    refine ⟨G', i, he.trans u1, h1, ⟨by rw [hlen]; exact u2, by omega, fun t ht => ?_⟩, h8, fun t t1 t2 => (h7 t t1 t2).2, fun a b q1 q2 => u4 a b q1 (by omega)⟩
    rw [hlen] at ht
    rw [getD_ins (by omega)]
    by_cases c1 : t < i
    · rw [if_pos c1]
      exact ⟨hl t (by omega), fun k hk => by rw [u4 _ _ (by omega) (by omega)]; exact h6 t c1 k hk⟩
    · rw [if_neg c1]
      by_cases c2 : t = i
      · rw [if_pos c2]
        refine ⟨hv, fun k hk => ?_⟩
        rw [c2, u3 k (Nat.zero_le k) (by omega)]
        exact h5 k hk
      · rw [if_neg c2]
        refine ⟨hl (t - 1) (by omega), fun k hk => ?_⟩
        have := (h7 (t - 1) (by omega) (by omega)).1 k hk
        rw [show t - 1 + 1 = t by omega] at this
        rw [u4 _ _ (by omega) (by omega)]
        exact this
  intro i
  induction i with
  | zero =>
    intro fu G h1 h2 h3 h4 h5 h6 h7
    obtain ⟨fu, rfl⟩ : ∃ t, fu = t + 1 := ⟨fu - 1, by omega⟩
    refine put 0 (fu + 1) G h1 h3 h5 h6 h7 (fun t ht => by omega) ?_
    show g285_31b (g285_31 f fu) f _ _ = _
    unfold g285_31b
    rw [if_pos (by decide)]
  | succ i ih =>
    intro fu G h1 h2 h3 h4 h5 h6 h7
    obtain ⟨fu, rfl⟩ : ∃ t, fu = t + 1 := ⟨fu - 1, by omega⟩
    have hi : i < S.length := by omega
    have r1 : rVe G 116 (8 * i) (S.getD i []) := ⟨by rw [xl116, hl i hi]; omega, by omega, by rw [hl i hi]; omega, fun k hk => h6 i (by omega) k (by rw [← hl i hi]; exact hk)⟩
    have r2 : rVe G 110 0 v := ⟨by rw [xl110, hv]; omega, by omega, by omega, fun k hk => by rw [Nat.zero_add]; exact h5 k (by omega)⟩
    have hcmp := l_262 (f := f) (n := nv) (by omega) r1 r2 (hl i hi) hv
    have e8 : xwr (8 * xwr (((i + 1 : Nat) : Int) - 1)) = ((8 * i : Nat) : Int) := by
      rw [xwr_g (((i + 1 : Nat) : Int) - 1) (by omega) (by omega), xwr_g _ (by omega) (by omega)]; omega
    have e0 : g285_31 f (fu + 1) ((i + 1 : Nat) : Int) G = (if vCmp (S.getD i []) v ≤ 0 then g285_104 f ((i + 1 : Nat) : Int) G else g285_62 (g285_31 f fu) f f ((i + 1 : Nat) : Int) 0 G) := by
      show g285_31b (g285_31 f fu) f _ _ = _
      unfold g285_31b
      rw [if_neg (by omega), e8, h4]
      have hcmp' : g262 f 116 ((8 * i : Nat) : Int) 110 0 (nv : Int) G = some (vCmp (S.getD i []) v, G) := hcmp
      rw [hcmp', Option.bind_some]
    by_cases c : vCmp (S.getD i []) v ≤ 0
    · exact put (i + 1) (fu + 1) G h1 h3 h5 h6 h7 (fun t ht => by rw [show t = i by omega]; exact c) (by rw [e0, if_pos c])
    · rw [if_neg c] at e0
      obtain ⟨G1, u1, u2, u3⟩ := l_285_62 (f := f) (r31 := g285_31 f fu) (i := i) (by omega) 8 0 f G rfl (by omega)
      obtain ⟨G', j, v1, v2, v3, v4, v5, v6⟩ := ih fu G1 (by omega) (by omega) (by rw [u3 _ _ (by omega)]; exact h3) (by rw [u3 _ _ (by omega)]; exact h4) (fun k hk => by rw [u3 _ _ (by omega)]; exact h5 k hk) (fun t ht k hk => by rw [u3 _ _ (by omega)]; exact h6 t (by omega) k hk) (fun t t1 t2 => by
        by_cases ct : t = i
        · rw [ct]
          refine ⟨fun k hk => ?_, by omega⟩
          rw [u2 k (Nat.zero_le k) (by omega)]
          exact h6 i (by omega) k hk
        · obtain ⟨q1, q2⟩ := h7 t (by omega) t2
          exact ⟨fun k hk => by rw [u3 _ _ (by omega)]; exact q1 k hk, q2⟩)
      refine ⟨G', j, ?_, v2, v3, v4, v5, fun a b q1 q2 => by rw [v6 a b q1 q2, u3 a b (by omega)]⟩
      rw [e0]
      exact u1.trans v1
end
