/-! The house as it begins -/
def s00 : pPg := ([], [], [], [], [], 0)
def mo0 : sMo := (0, [], fun _ => 0, fun _ => -1, false)
def ln0 : sLn := (fun _ => mo0, (0, 0, 0), (fun _ => 0, fun _ => 0, false), ([], -1, fun _ => -1), (-1, 0))
def hs0 : sHs := ([[]], fun _ => ln0, 0, [], (0, []), (-1, []), -1, 0)
theorem qPr_0 : qPr [] = .inr s00 := by
  unfold qPr
  show pProg (tstr (tBt []) 0 false) 8 2 s00 = .inr s00
  unfold pProg
  exact if_pos (by decide +kernel)
theorem pFa_0 {k a : Int} : ¬ pFa s00 0 k a := by
  unfold pFa qS5
  have hS : ∀ k a, ¬ qSa s00.2.1 s00.2.2.2.2.1 s00.2.2.2.1 0 s00.1.length 0 k a := fun k a h => by
    rcases h with (⟨y, _, h, _⟩ | ⟨_, z, y, _, h, _⟩) | ⟨_, y, _, h, _⟩
    · exact absurd h (Nat.not_lt_zero _)
    · exact absurd h (Nat.not_lt_zero _)
    · exact absurd h (Nat.not_lt_zero _)
  rintro (h | ⟨_, _, y, _, h, _⟩)
  · exact hS _ _ h
  · exact absurd h (Nat.not_lt_zero _)
theorem qOk_0 : qOk s00 := ⟨⟨Nat.zero_le _, List.nodup_nil, fun x hx => absurd hx (by decide +revert), fun x hx => (by cases hx), fun x hx => (by cases hx), Nat.zero_le _, fun x hx => (by cases hx)⟩, fun x hx => (by cases hx), fun k a => pFa_0⟩
theorem isMo_0 : isMo [[]] mo0 s00 (fun _ => []) := ⟨by decide, qPr_0, qOk_0, fun x hx => (by cases hx), ⟨⟨fun p hp => absurd hp (Nat.not_lt_zero p), fun p hp => absurd hp (Nat.not_lt_zero p), fun p hp => absurd hp (Nat.not_lt_zero p)⟩, fun p hp => absurd hp (Nat.not_lt_zero p)⟩, ⟨List.Pairwise.nil, fun y => ⟨fun h => (by cases h), fun ⟨p, hp, _⟩ => absurd hp (Nat.not_lt_zero p)⟩⟩, ⟨fun c => Nat.zero_lt_one, fun c _ h => absurd rfl h⟩⟩
theorem sOk_0 : sOk [[]] ln0 0 := ⟨fun r r1 r2 => ⟨s00, fun _ => [], isMo_0⟩, fun r r1 r2 => by have r2' : r ≤ 0 := r2; have r1' : 0 < r := r1; omega, ⟨Nat.le_refl _, Nat.le_refl _⟩, ⟨by decide, by decide, by decide⟩, Nat.le_refl _, fun p hp => ⟨Int.le_refl _, Int.le_refl _⟩, fun p hp => ⟨Int.le_refl _, Int.le_refl _⟩, fun e he => (by cases he), .inl rfl, fun c => .inl rfl⟩
theorem fSh_0 {T : List (List Int)} {s : pPg} {M : Nat → List pRw} (c : Nat) : fSh (xOf T (fun _ => 0)) s M c = (0, 0) := rfl
theorem hInv_0 : hInv [[]] (fun _ => ln0) := ⟨fun y hy => ⟨fun r r1 r2 => ⟨s00, fun _ => [], isMo_0, fun p hp => absurd hp (Nat.not_lt_zero p)⟩, fun r r1 r2 => by have r2' : r ≤ 0 := r2; omega, .inl rfl⟩, fun y hy => .inl rfl⟩
/-- the reference as it is made -/
def xIni (G : xG_) : Prop := rC G ∧ (G 0 62 = 0 ∧ G 0 63 = 0 ∧ G 0 64 = 0 ∧ G 0 65 = -1) ∧ (G 0 71 = 1 ∧ G 0 72 = 0 ∧ G 0 73 = 0 ∧ G 0 75 = -1) ∧ (G 0 82 = -1 ∧ G 0 83 = 0 ∧ G 0 105 = 0 ∧ G 0 106 = 0) ∧ (G 241 0 = 0 ∧ G 242 0 = 0) ∧
  ∀ k, k < 4 → (∀ j, (1 ≤ j ∧ j ≤ 4 ∨ j = 10 ∨ j = 16 ∨ j = 17 ∨ j = 27 ∨ j = 33 ∨ j = 36) → G (123 + 29 * k) j = 0) ∧ (G (123 + 29 * k) 34 = -1 ∧ G (123 + 29 * k) 35 = -1) ∧ G (123 + 29 * k + 1) 3 = 0 ∧ (∀ a j, 15 ≤ a → a ≤ 20 → j < 72 → G (123 + 29 * k + a) j = 0) ∧ ∀ j, j < 72 → G (123 + 29 * k + 26) j = -1
theorem r_init {G : xG_} (h : xIni G) : rHs G hs0 0 := by
  obtain ⟨h1, ⟨h2, h3, h4, h5⟩, ⟨h6, h7, h8, h9⟩, ⟨h10, h11, h12, h13⟩, ⟨h14, h15⟩, h16⟩ := h
  refine ⟨0, ⟨h1, ⟨h6, h7, by decide, by decide, fun k hk => ?_⟩, h2, by decide, fun k hk => ?_, ⟨by rw [h3]; decide, by rw [h3]; decide⟩, ⟨by rw [h4]; decide, by rw [h4]; decide⟩, by rw [h5, h4]; decide, fun e => ?_⟩, hInv_0, rTp.nil h8, ⟨h12, h13, Nat.zero_le _, Nat.zero_le _, fun i hi => absurd hi (Nat.not_lt_zero i)⟩, ⟨h10, h11, Nat.zero_le _, fun j hj => absurd hj (Nat.not_lt_zero j)⟩, h9, h3, Nat.le_refl _, Nat.le_refl _⟩
  · have e : k = 0 := by have hk' : k < 1 := hk; omega
    subst e
    exact ⟨Nat.zero_le _, 0, h14, h15, Nat.le_refl _, ⟨.inl rfl, by decide +kernel, fun p hp => absurd hp (Nat.not_lt_zero p)⟩, fun p hp => absurd hp (Nat.not_lt_zero p)⟩
  · obtain ⟨y1, ⟨y2, y3⟩, y4, y5, y6⟩ := h16 k hk
    refine ⟨s00, fun _ => [], isMo_0, ⟨⟨⟨y1 10 (by omega), Nat.zero_le _, fun i hi => absurd hi (Nat.not_lt_zero i)⟩, ⟨y1 16 (by omega), Nat.zero_le _, fun i hi => absurd hi (Nat.not_lt_zero i)⟩, ⟨y1 17 (by omega), Nat.zero_le _, fun i hi => absurd hi (Nat.not_lt_zero i)⟩, List.Pairwise.nil, List.Pairwise.nil, List.Pairwise.nil⟩, ⟨y1 1 (by omega), y1 2 (by omega), y1 3 (by omega), y1 4 (by omega)⟩, ⟨y4, Nat.zero_le _, fun i hi => absurd hi (Nat.not_lt_zero i)⟩, fun c hc => y5 15 c (by omega) (by omega) hc, fun c hc => ⟨y5 17 c (by omega) (by omega) hc, y5 20 c (by omega) (by omega) hc⟩, fun p hp => y5 18 p (by omega) (by omega) (by omega), fun c hc => y5 16 c (by omega) (by omega) hc, ⟨[], ⟨y1 27 (by omega), Nat.zero_le _, fun i hi => absurd hi (Nat.not_lt_zero i)⟩, fun q => absurd (show false = true from q) (by decide), fun _ => rfl⟩, ⟨fun q => absurd (show false = true from q) (by decide), fun _ p hp => y5 19 p (by omega) (by omega) (by omega)⟩, ⟨⟨y1 33 (by omega), Nat.zero_le _, fun i hi => absurd hi (Nat.not_lt_zero i)⟩, y2, fun c hc => y6 c hc⟩, y3, y1 36 (by omega)⟩, sOk_0⟩
  · rw [h5, h4] at e
    exact absurd e (by decide)
