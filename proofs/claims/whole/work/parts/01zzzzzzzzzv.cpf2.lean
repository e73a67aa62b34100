/-! THE CLASS: programFault(), the rules' VARIABLES -/
section
variable {f q nx : Nat} {S : Nat → Nat × Nat × Nat} {m : Nat × Nat} {R : List pRu}
/-- the first VARIABLE of the first rule from r on that is not bound -/
def fUp (R : List pRu) (r : Nat) (x : Int) : Prop := x = -1 ∧ (∀ i, r ≤ i → i < R.length → ∀ v, v < (R.getD i dRu).2.2.2.2.1.length → (qBd (R.getD i dRu).2.2.2.2.2).testBit v = true) ∨ ∃ i, r ≤ i ∧ i < R.length ∧ uPl (R.getD i dRu).2.2.2.2.1 (qBd (R.getD i dRu).2.2.2.2.2) 0 x ∧ x ≠ -1 ∧ ∀ j, r ≤ j → j < i → ∀ v, v < (R.getD j dRu).2.2.2.2.1.length → (qBd (R.getD j dRu).2.2.2.2.2).testBit v = true
theorem k_62r {np : Nat} (hf : 3010 < f) (hs : cSs S) (hq : 278 < q) (qs : cPgS S q) (hw : ∀ u ∈ R, ∀ y ∈ u.2.2.2.2.2, wLt np u.2.2.2.2.1.length y) : ∀ (d r fu : Nat) (G : xG_), r + d = R.length → d < fu → cPs G → G 72 3 = (q : Int) → cPgP G q → cRl S G q nx R → ∃ x G', (∀ a j, ¬ (a = 72 ∧ j = 2) → G' a j = G a j) ∧ fUp R r x ∧ (x ≠ -1 → c62_56 f fu 72 (r : Int) (S, G, m) = some (4, (S, G', m)) ∧ G' 72 2 = x) ∧ (x = -1 → ∃ fu', c62_56 f fu 72 (r : Int) (S, G, m) = c62_56 f (fu' + 1) 72 (R.length : Int) (S, G', m)) := by
  intro d
  induction d with
  | zero =>
    intro r fu G e1 e2 hp h3 hG hR
    obtain ⟨fu, rfl⟩ : ∃ t, fu = t + 1 := ⟨fu - 1, by omega⟩
    have : r = R.length := by omega
    rw [this]
    exact ⟨-1, G, fun _ _ _ => rfl, .inl ⟨rfl, fun i z1 z2 => by omega⟩, fun y => absurd rfl y, fun _ => ⟨fu, rfl⟩⟩
  | succ d ih =>
    intro r fu G e1 e2 hp h3 hG hR
    obtain ⟨fu, rfl⟩ : ∃ t, fu = t + 1 := ⟨fu - 1, by omega⟩
    have hr : r < R.length := by omega
    have hR24 := hR.2.1
    have ek : xwr ((r : Int) + 1) = ((r + 1 : Nat) : Int) := by rw [xwr_g _ (by omega) (by omega)]; omega
    obtain ⟨u, u1, u2, u3, ⟨K, v1, v2, v3, v4, v5, v6⟩, u5, u6⟩ := hR.2.2 r hr
    have hm : R.getD r dRu ∈ R := by rw [getD_e hr]; exact List.getElem_mem hr
    obtain ⟨x, x1, x2⟩ := k_95 (f := f) (m := m) hf v1 (hw _ hm) v4 v5 v6
    have st : c62_56 f (fu + 1) 72 (r : Int) (S, G, m) = _ := st_62r (r56 := c62_56 f fu) hs (by omega) v1.2.2.2.2.1 hr hR24 qs.1 v1.1.1 qs.2.2.2.2.2.2.2.1 h3 hR.1 hG.2.2.2.2.2.2.1 u1 x1
    have z : ∀ a j, ¬ (a = 72 ∧ j = 2) → xup2 G 72 2 x a j = G a j := fun a j y => xup2_n y
    by_cases c : x = -1
    · rw [if_pos c, ek] at st
      obtain ⟨y, G', y1, y2, y3, y4⟩ := ih (r + 1) fu (xup2 G 72 2 x) (by omega) (by omega) (hp.read (fun a j w1 _ _ => z a j (by omega))) (by rw [z _ _ (by omega)]; exact h3) (hG.ge (fun j _ _ _ => z q j (by omega))) (hR.ge (Nat.le_refl _) (z _ _ (by omega)) (fun j _ => z _ _ (by omega)) (fun _ _ => rfl) (fun a j w1 w2 => z a j (by omega)))
      have hall : ∀ v, v < (R.getD r dRu).2.2.2.2.1.length → (qBd (R.getD r dRu).2.2.2.2.2).testBit v = true := by
        rcases x2 with ⟨_, a2⟩ | ⟨v, _, _, _, _, a5⟩
        · exact fun v hv => a2 v (Nat.zero_le _) hv
        · rw [c] at a5; omega
      refine ⟨y, G', fun a j w => by rw [y1 a j w, z a j w], ?_, fun h => ⟨st.trans (y3 h).1, (y3 h).2⟩, fun h => by obtain ⟨fu', e⟩ := y4 h; exact ⟨fu', st.trans e⟩⟩
      rcases y2 with ⟨a1, a2⟩ | ⟨i, a1, a2, a3, a4, a5⟩
      · refine .inl ⟨a1, fun i w1 w2 => ?_⟩
        by_cases ci : i = r
        · rw [ci]; exact hall
        · exact a2 i (by omega) w2
      · refine .inr ⟨i, by omega, a2, a3, a4, fun j w1 w2 => ?_⟩
        by_cases cj : j = r
        · rw [cj]; exact hall
        · exact a5 j (by omega) w2
    · rw [if_neg c] at st
      exact ⟨x, xup2 G 72 2 x, z, .inr ⟨r, Nat.le_refl _, hr, x2, c, fun j w1 w2 => by omega⟩, fun _ => ⟨st, xup2_s _ _ _ _⟩, fun h => absurd h c⟩
end
