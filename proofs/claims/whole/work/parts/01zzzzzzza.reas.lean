/-! Reasons: the least WAY that gives a row -/
/-- the least of the WAYS W of which Y holds stands at 117, where there is one -/
def rBs (G : xG_) (nv : Nat) (Y : List Int → Prop) (W : List (List Int)) : Prop := (G 0 54 = 0 ∧ ∀ v ∈ W, ¬ Y v) ∨ (G 0 54 = 1 ∧ ∃ v, v ∈ W ∧ Y v ∧ v.length = nv ∧ (∀ k, k < nv → G 117 k = v.getD k 0) ∧ ∀ x ∈ W, Y x → vLe v x)
theorem xl117 : ((xl_t 117).2.2 : Int) = 8 := by decide +kernel
section
variable {f nv r : Nat} {Y : List Int → Prop} {W : List (List Int)}
theorem l_286_45 (hnv : nv ≤ 8) : ∀ (d k fu : Nat) (G : xG_), k + d = nv → d < fu → ∃ G', g286_45 f fu (nv : Int) (k : Int) G = some G' ∧ (∀ z, k ≤ z → z < nv → G' 117 z = G 110 z) ∧ ∀ a j, ¬ (a = 117 ∧ k ≤ j) → G' a j = G a j := by
  intro d
  induction d with
  | zero =>
    intro k fu G h1 h2
    obtain ⟨fu, rfl⟩ : ∃ t, fu = t + 1 := ⟨fu - 1, by omega⟩
    refine ⟨G, ?_, fun z _ _ => by omega, fun _ _ _ => rfl⟩
    show g286_45b (g286_45 f fu) f _ _ _ = _
    unfold g286_45b
    rw [if_pos (by omega)]
  | succ d ih =>
    intro k fu G h1 h2
    obtain ⟨fu, rfl⟩ : ∃ t, fu = t + 1 := ⟨fu - 1, by omega⟩
    have ek : xwr ((k : Int) + 1) = ((k + 1 : Nat) : Int) := by rw [xwr_g _ (by omega) (by omega)]; omega
    obtain ⟨G', u1, u2, u3⟩ := ih (k + 1) fu (xup2 G 117 k (G 110 k)) (by omega) (by omega)
    refine ⟨G', ?_, fun z z1 z2 => ?_, fun a j q => by rw [u3 a j (by omega), xup2_n (by omega)]⟩
    · show g286_45b (g286_45 f fu) f _ _ _ = _
      unfold g286_45b
      rw [if_neg (by omega), if_pos (by omega), if_pos (by omega), Int.toNat_natCast, Option.bind_some, ek]
      exact u1
    · by_cases c : z = k
      · rw [c, u3 _ _ (by omega), xup2_s]
      · rw [u2 z (by omega) z2, xup2_n (by omega)]
/-- a WAY that gives the row -/
theorem l_286 {G : xG_} (hf : 100 < f) (hnv : nv ≤ 8) (hr : r < 25) (h39 : G 0 39 = (r : Int)) (h22 : G 22 r = (nv : Int)) (hY : Y (vOf G nv)) (hW : ∀ x ∈ W, x.length = nv) (h : rBs G nv Y W) : ∃ G', g286 f G = some G' ∧ rBs G' nv Y (W ++ [vOf G nv]) ∧ ∀ a j, ¬ (a = 0 ∧ j = 54) → a ≠ 117 → G' a j = G a j := by
  have hl : (vOf G nv).length = nv := vOf_len _ _
  have hrr : 0 ≤ (r : Int) ∧ (r : Int) < 25 := by omega
  have take : ∃ G', g286_38 f (nv : Int) G = some G' ∧ G' 0 54 = 1 ∧ (∀ k, k < nv → G' 117 k = (vOf G nv).getD k 0) ∧ ∀ a j, ¬ (a = 0 ∧ j = 54) → a ≠ 117 → G' a j = G a j := by
    obtain ⟨G', u1, u2, u3⟩ := l_286_45 (f := f) hnv nv 0 f (xup2 G 0 54 1) (by omega) (by omega)
    refine ⟨G', ?_, by rw [u3 _ _ (by omega), xup2_s], fun k hk => ?_, fun a j q1 q2 => by rw [u3 a j (by omega), xup2_n (by omega)]⟩
    · unfold g286_38
      rw [Option.bind_some]
      exact u1
    · rw [u2 k (Nat.zero_le _) hk, xup2_n (by omega)]
      exact (vOf_get hk).symm
  have ve0 : rVe G 110 0 (vOf G nv) := ⟨by rw [xl110, hl]; omega, by omega, by omega, fun k hk => by rw [Nat.zero_add]; exact (vOf_get (by omega)).symm⟩
  rcases h with ⟨h1, h2⟩ | ⟨h1, v, v1, v2, v3, v4, v5⟩
  · obtain ⟨G', k1, k2, k3, k4⟩ := take
    refine ⟨G', ?_, .inr ⟨k2, vOf G nv, List.mem_append.mpr (.inr (List.mem_singleton.mpr rfl)), hY, hl, k3, fun x hx hYx => ?_⟩, k4⟩
    · unfold g286
      rw [h39, if_pos hrr, h1, if_pos rfl, Int.toNat_natCast, h22]
      exact k1
    · rcases List.mem_append.mp hx with q | q
      · exact absurd hYx (h2 x q)
      · rw [List.mem_singleton.mp q]
        show vCmp _ _ ≤ 0
        rw [vCmp_self]
        exact Int.le_refl _
  · have ve1 : rVe G 117 0 v := ⟨by rw [xl117, v3]; omega, by omega, by omega, fun k hk => by rw [Nat.zero_add]; exact v4 k (by omega)⟩
    have ec : g262 f 117 0 110 0 (nv : Int) G = some (vCmp v (vOf G nv), G) := l_262 (by omega) ve1 ve0 v3 hl
    have e1 : g286 f G = (if 0 < vCmp v (vOf G nv) then g286_38 f (nv : Int) G else some G) := by
      unfold g286
      rw [h39, if_pos hrr, h1, if_neg (by decide), Int.toNat_natCast, h22, ec, Option.bind_some]
    by_cases cc : 0 < vCmp v (vOf G nv)
    · obtain ⟨G', k1, k2, k3, k4⟩ := take
      refine ⟨G', by rw [e1, if_pos cc]; exact k1, .inr ⟨k2, vOf G nv, List.mem_append.mpr (.inr (List.mem_singleton.mpr rfl)), hY, hl, k3, fun x hx hYx => ?_⟩, k4⟩
      rcases List.mem_append.mp hx with q | q
      · have h5 : vLe v x := v5 x q hYx
        have hav : vLe (vOf G nv) v := by
          show vCmp _ _ ≤ 0
          rw [vCmp_anti]
          omega
        by_cases cl : x.length = nv
        · exact vLe_tr (by omega) (by omega) hav h5
        · exact absurd (hW x q) cl
      · rw [List.mem_singleton.mp q]
        show vCmp _ _ ≤ 0
        rw [vCmp_self]
        exact Int.le_refl _
    · refine ⟨G, by rw [e1, if_neg cc], .inr ⟨h1, v, List.mem_append.mpr (.inl v1), v2, v3, v4, fun x hx hYx => ?_⟩, fun _ _ _ _ => rfl⟩
      rcases List.mem_append.mp hx with q | q
      · exact v5 x q hYx
      · rw [List.mem_singleton.mp q]
        show vCmp _ _ ≤ 0
        omega
end
