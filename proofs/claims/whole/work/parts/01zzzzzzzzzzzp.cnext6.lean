/-! THE CLASS: next() whole -/
section
variable {f u fa fn np nv a : Nat} {S : Nat → Nat × Nat × Nat} {G : xG_} {m : Nat × Nat} {K : pCd} {Ls : List pLt} {pl : List Nat} {br : Int} {qn xp cp : Nat → Nat} {R : Nat → List pRw} {lo hi : Nat → Int} {Bf : Nat} {V : List (Nat → Int)}
/-- what next() answers -/
def nxR (Ls : List pLt) (pl : List Nat) (a : Nat) (br : Int) (R : Nat → List pRw) (lo hi : Nat → Int) (Bf : Nat) (G : xG_) (V : List (Nat → Int)) (k : Nat) (S : Nat → Nat × Nat × Nat) (m : Nat × Nat) (e : Option (Int × xT_)) : Prop :=
  (∃ G', e = some (0, (S, G', m)) ∧ xWf G G' ∧ V = []) ∨ (∃ G' v V' k', e = some (1, (S, G', m)) ∧ xWf G G' ∧ V = v :: V' ∧ k' < k ∧ wSt8 Ls pl a br R lo hi G' Bf V' k' ∧ cVl G' Bf v)
theorem k_132l (hf : 3010 < f) : ∀ (k fu : Nat) (x : Int) (G : xG_), cWE S G u K Ls pl fa fn np nv a br qn xp cp R lo hi → wSt8 Ls pl a br R lo hi G Bf V k → k < fu → 0 ≤ x → x + (k : Int) < 1000000000 → nxR Ls pl a br R lo hi Bf G V k S m (c132_2 f fu 83 x (S, G, m)) := by
  intro k
  induction k using Nat.strongRecOn with
  | _ k ih =>
    intro fu x G h hs hk hx0 hx1
    obtain ⟨fu, rfl⟩ : ∃ t, fu = t + 1 := ⟨fu - 1, by omega⟩
    have hx : 0 ≤ x ∧ x < 1000000000 := by omega
    have step : nxS Ls pl a br R lo hi Bf G V k S m (c132_2b (c132_2 f fu) f 83 x (S, G, m)) (c132_2 f fu 83 (x + 1)) := by
      rcases hs with ⟨st, b, vl, V1, k1, V2, k2, a1, a2, a3, a4, a5, a6, a7, a8, a9, a10⟩ | ⟨n, B, a1, a2, a3, a4, a5⟩
      · rw [a9, a10]
        by_cases c : st < pl.length
        · rcases (h.at c).2.2.2.2.2 with ⟨q1, q2⟩ | ⟨q1, q2⟩ | ⟨q1, q2, q3⟩
          · exact nx_fa hf hx h c a2 a3 a4 a5 a6 a7 a8 q1 q2
          · exact nx_fn hf hx h c a2 a3 a4 a5 a6 a7 a8 q1 q2
          · exact nx_fc hf hx h c a2 a3 a4 a5 a6 a7 a8 q1 q2 q3
        · have e : st = pl.length := by omega
          subst e
          exact nx_fl hx h a2 a3 a4 a6 a7 a8
      · cases n with
        | zero => exact nx_be hx h a2 a5
        | succ n => exact nx_b hf hx h a1 a2 a3 a4 a5
    rcases step with ⟨G', k', e1, e2, e3, e4⟩ | ⟨G', v, V', k', e1, e2, e3, e4, e5, e6⟩ | ⟨e1, e2⟩
    · have q := ih k' e3 fu (x + 1) G' (h.ge e2) e4 (by omega) (by omega) (by omega)
      have e0 : c132_2 f (fu + 1) 83 x (S, G, m) = c132_2 f fu 83 (x + 1) (S, G', m) := e1
      rw [e0]
      rcases q with ⟨G2, q1, q2, q3⟩ | ⟨G2, v, V', k2, q1, q2, q3, q4, q5, q6⟩
      · exact .inl ⟨G2, q1, e2.tr q2, q3⟩
      · exact .inr ⟨G2, v, V', k2, q1, e2.tr q2, q3, by omega, q5, q6⟩
    · exact .inr ⟨G', v, V', k', e1, e2, e3, e4, e5, e6⟩
    · exact .inl ⟨G, e1, .id, e2⟩
theorem k_next {k : Nat} (hf : 100003010 < f) (h : cWE S G u K Ls pl fa fn np nv a br qn xp cp R lo hi) (hs : wSt8 Ls pl a br R lo hi G Bf V k) (hk : k ≤ 100000000) : nxR Ls pl a br R lo hi Bf G V k S m (c132 f 83 (S, G, m)) := k_132l (by omega) k f 0 G h hs (by omega) (Int.le_refl 0) (by omega)
/-- how much it may cost -/
theorem wyB_le {Ls : List pLt} : ∀ (pr : List Nat) (t c : Nat), pr.length ≤ t → (pr.filter (fun p => decide ((Ls.getD p dLt).1 = 1))).length ≤ c → wyB Ls pr ≤ (3 * t + 1) * 101 ^ c
  | [], t, c, _, _ => by
    show 1 ≤ _
    exact Nat.mul_pos (by omega) (Nat.pow_pos (by decide))
  | p :: pr, t, c, h1, h2 => by
    obtain ⟨t, rfl⟩ : ∃ s, t = s + 1 := ⟨t - 1, by rw [List.length_cons] at h1; omega⟩
    have h1' : pr.length ≤ t := by rw [List.length_cons] at h1; omega
    show 1 + (if (Ls.getD p dLt).1 = 1 then 100 else 1) * (wyB Ls pr + 1) ≤ _
    by_cases q : (Ls.getD p dLt).1 = 1
    · rw [List.filter_cons_of_pos (by rw [decide_eq_true q]), List.length_cons] at h2
      obtain ⟨c, rfl⟩ : ∃ s, c = s + 1 := ⟨c - 1, by omega⟩
      have ih := wyB_le (Ls := Ls) pr t c h1' (by omega)
      rw [if_pos q]
      have hp : 1 ≤ 101 ^ c := Nat.pow_pos (by decide)
      have e : (3 * (t + 1) + 1) * 101 ^ (c + 1) = 101 * ((3 * t + 1) * 101 ^ c) + 303 * 101 ^ c := by
        rw [Nat.pow_succ]
        generalize 101 ^ c = Y
        rw [show 3 * (t + 1) + 1 = (3 * t + 1) + 3 by omega, Nat.add_mul, ← Nat.mul_assoc (3 * t + 1) Y 101]
        generalize (3 * t + 1) * Y = X
        omega
      rw [e]
      generalize (3 * t + 1) * 101 ^ c = X at ih
      generalize 101 ^ c = Y at hp
      omega
    · rw [List.filter_cons_of_neg (by rw [decide_eq_false q]; decide)] at h2
      have ih := wyB_le (Ls := Ls) pr t c h1' h2
      rw [if_neg q]
      have hp : 1 ≤ 101 ^ c := Nat.pow_pos (by decide)
      have e : (3 * (t + 1) + 1) * 101 ^ c = (3 * t + 1) * 101 ^ c + 3 * 101 ^ c := by
        rw [show 3 * (t + 1) + 1 = (3 * t + 1) + 3 by omega, Nat.add_mul]
      rw [e]
      generalize (3 * t + 1) * 101 ^ c = X at ih
      generalize 101 ^ c = Y at hp
      omega
/-- open() leaves the first step ahead -/
theorem wSt_0 (hst : G 83 6 = 0) (h7 : G 83 7 = 1) {b : Nat} {vl : Nat → Int} (hlv : lvE G 0 b vl) (hok : okP Ls pl b) {k : Nat} (hw : wyE Ls a br R lo hi pl b vl V k) : wSt8 Ls pl a br R lo hi G (mkP Ls pl b) V k := .inl ⟨0, b, vl, V, k, [], 0, Nat.zero_le _, hst, h7, hlv, by rw [List.drop_zero]; exact hok, by rw [List.drop_zero], by rw [List.drop_zero]; exact hw, ⟨rfl, rfl⟩, (List.append_nil V).symm, rfl⟩
end
