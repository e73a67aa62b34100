/-! THE CLASS: merge: where two lines meet -/
def eqR (R R2 : List pRw) (k : Nat) (κ : List Int) : Prop := ∀ v : List Int, v.take k = κ → (inV R v ↔ inV R2 v)
def lkR (R : List pRw) (k : Nat) (κ : List Int) (i : Int) : Prop := (i = -1 ∧ ∀ r ∈ R, r.1.take k ≠ κ) ∨ ∃ t : Nat, i = (t : Int) ∧ t < R.length ∧ (R.getD t dRw).1.take k = κ
def uK (R : List pRw) (k : Nat) : Prop := ∀ r ∈ R, ∀ r' ∈ R, r.1.take k = r'.1.take k → r.1 = r'.1
def mtR (B A Z : List pRw) (k : Nat) (κ : List Int) : Prop := ¬ eqR B Z k κ ∧ ¬ eqR A Z k κ ∧ ¬ eqR B A k κ
section
variable {f x y z a W cap cap2 cap3 k A0 sl : Nat} {S : Nat → Nat × Nat × Nat} {G : xG_} {m : Nat × Nat} {R R2 B A Z : List pRw} {κ : List Int} {i j : Int}
theorem get_in {R : List pRw} {t : Nat} (h : t < R.length) : R.getD t dRw ∈ R := mem_get.mpr ⟨t, h, rfl⟩
theorem k_86 (hf : 20 < f) (h : cRw S G x W cap R) (h2 : cRw S G y W cap2 R2) (hi : lkR R k κ i) (hj : lkR R2 k κ j) (u1 : uK R k) (u2 : uK R2 k) : ∃ v, c86 f x i y j (S, G, m) = some (v, (S, G, m)) ∧ (v = 0 ∧ ¬ eqR R R2 k κ ∨ v = 1 ∧ eqR R R2 k κ) := by
  have e20 : ∀ v : Int, v = 0 ∨ v = 1 → c86_20 f v (S, G, m) = some (v, (S, G, m)) := fun v hv => if_pos hv
  have e40 : ∀ v : Int, v = 0 ∨ v = 1 → c86_40 f v (S, G, m) = some (v, (S, G, m)) := fun v hv => if_pos hv
  unfold c86 c86_10
  rcases hi with ⟨rfl, hi⟩ | ⟨t, rfl, t1, t2⟩
  · rw [if_pos rfl]
    rcases hj with ⟨rfl, hj⟩ | ⟨t', rfl, r1, r2⟩
    · rw [if_neg (fun z => z rfl), e20 1 (.inr rfl)]
      refine ⟨1, rfl, .inr ⟨rfl, fun v hv => ⟨fun ⟨r, q1, q2⟩ => ?_, fun ⟨r, q1, q2⟩ => ?_⟩⟩⟩
      · exact absurd (by rw [q2]; exact hv) (hi r q1)
      · exact absurd (by rw [q2]; exact hv) (hj r q1)
    · rw [if_pos (by omega), e20 0 (.inl rfl)]
      refine ⟨0, rfl, .inl ⟨rfl, fun e => ?_⟩⟩
      obtain ⟨r, q1, q2⟩ := (e _ r2).mpr ⟨_, get_in r1, rfl⟩
      exact hi r q1 (by rw [q2]; exact r2)
  · rw [if_neg (by omega)]
    rcases hj with ⟨rfl, hj⟩ | ⟨t', rfl, r1, r2⟩
    · rw [if_neg (fun z => z rfl), if_pos (by omega), e20 0 (.inl rfl)]
      refine ⟨0, rfl, .inl ⟨rfl, fun e => ?_⟩⟩
      obtain ⟨r, q1, q2⟩ := (e _ t2).mp ⟨_, get_in t1, rfl⟩
      exact hj r q1 (by rw [q2]; exact t2)
    · have l1 := (h.2.2.2.2.2.2.2 t t1).1
      have l2 := (h2.2.2.2.2.2.2.2 t' r1).1
      have e72 := k_72 (m := m) (k := W) hf h h2 t1 r1 (Nat.le_refl _) (Nat.le_refl _)
      rw [List.take_of_length_le (by omega), List.take_of_length_le (by omega)] at e72
      have is : cq_is 5 4 x (S, G, m) = some () := if_pos h.1
      rw [if_pos (by omega), o_gi h.1, Option.bind_some, h.2.2.2.1.1, is, Option.bind_some, e72, Option.bind_some]
      by_cases c : vCmp (R.getD t dRw).1 (R2.getD t' dRw).1 = 0
      · have e := vCmp_eq (by omega) c
        rw [if_neg (fun z => z c), e40 1 (.inr rfl)]
        refine ⟨1, rfl, .inr ⟨rfl, fun v hv => ⟨fun ⟨r, q1, q2⟩ => ?_, fun ⟨r, q1, q2⟩ => ?_⟩⟩⟩
        · have := u1 r q1 _ (get_in t1) (by rw [q2, hv, t2])
          exact ⟨_, get_in r1, by rw [← e, ← this, q2]⟩
        · have := u2 r q1 _ (get_in r1) (by rw [q2, hv, r2])
          exact ⟨_, get_in t1, by rw [e, ← this, q2]⟩
      · rw [if_pos c, e40 0 (.inl rfl)]
        refine ⟨0, rfl, .inl ⟨rfl, fun e => ?_⟩⟩
        obtain ⟨r, q1, q2⟩ := (e _ t2).mp ⟨_, get_in t1, rfl⟩
        have := u2 r q1 _ (get_in r1) (by rw [q2, t2, r2])
        rw [q2] at this
        exact c (by rw [this]; exact vCmp_self _)
/-- KEYS grow -/
theorem ks_lt {t t' : Nat} (hs : R.Pairwise rwLt) (hl : ∀ r ∈ R, r.1.length = W) (u : uK R k) (h1 : t < t') (h2 : t' < R.length) : vCmp ((R.getD t dRw).1.take k) ((R.getD t' dRw).1.take k) < 0 := by
  have l1 := hl _ (get_in (by omega : t < R.length))
  have l2 := hl _ (get_in h2)
  have hlt : vLt (R.getD t dRw).1 (R.getD t' dRw).1 := srt_get (d := dRw) hs h1 h2
  have c1 := vCmp_tk k _ _ ((vLt_iff (by omega)).mp hlt)
  have c2 : vCmp ((R.getD t dRw).1.take k) ((R.getD t' dRw).1.take k) ≠ 0 := fun e => by
    have e2 := vCmp_eq (by rw [List.length_take, List.length_take]; omega) e
    have e3 := u _ (get_in (by omega : t < R.length)) _ (get_in h2) e2
    rw [e3] at hlt
    exact vLt_irr _ hlt
  omega
/-- meeting's step: where the next KEY stands -/
theorem st_85 {r11 : Nat → Nat → Nat → Int → Nat → Int → Int → xT_ → Option (Int × xT_)} {i j : Nat} (h : cRw S G x W cap B) (h3 : cRw S G z W cap3 Z) (hf : 20 < f) (hk : k ≤ W) (hij : i < B.length ∨ j < Z.length) : ∃ c : Int, (-1 ≤ c ∧ c ≤ 1) ∧ (c ≤ 0 → i < B.length) ∧ (0 ≤ c → j < Z.length) ∧ (i < B.length → j < Z.length → c = vCmp ((B.getD i dRw).1.take k) ((Z.getD j dRw).1.take k)) ∧ c85_11b r11 f x y z (k : Int) a (i : Int) (j : Int) (S, G, m) = c85_65 r11 f x y z (k : Int) a (i : Int) (j : Int) c (S, G, m) := by
  unfold c85_11b c85_29
  rw [o_gi h.1, Option.bind_some, h.2.2.2.1.2.1, o_gi h3.1, Option.bind_some, h3.2.2.2.1.2.1]
  have is : cq_is 5 4 x (S, G, m) = some () := if_pos h.1
  by_cases c1 : i < B.length
  · rw [if_pos (by omega), if_pos (by omega), Option.bind_some]
    by_cases c2 : j < Z.length
    · have e72 := k_72 (m := m) (k := k) hf h h3 c1 c2 hk hk
      have cin := vCmp_in ((B.getD i dRw).1.take k) ((Z.getD j dRw).1.take k)
      rw [if_pos (by omega), is, Option.bind_some, e72, Option.bind_some]
      exact ⟨_, by omega, fun _ => c1, fun _ => c2, fun _ _ => rfl, rfl⟩
    · rw [if_neg (by omega)]
      exact ⟨-1, by omega, fun _ => c1, fun z => absurd z (by decide), fun _ z => absurd z c2, rfl⟩
  · have c2 : j < Z.length := by omega
    rw [if_neg (by omega), Option.bind_some, if_neg (by omega), if_neg (by omega)]
    exact ⟨1, by omega, fun z => absurd z (by decide), fun _ => c2, fun z => absurd z c1, rfl⟩
end
