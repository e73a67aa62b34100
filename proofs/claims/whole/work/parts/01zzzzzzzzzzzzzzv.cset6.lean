/-! THE CLASS: the SHEET: settle(), the texts behind it -/
section
variable {be ln tp A sl n : Nat} {S0 S : Nat → Nat × Nat × Nat} {G0 G : xG_} {m : Nat × Nat} {u : Int} {X Y : fXs} {to lt : Nat → Nat}
/-- the texts that stand behind a round -/
def xN9 (G0 : xG_) (ln : Nat) (X Y : fXs) : fXs := fun c => if G0 (ln + 7) c = 0 then X c else Y c
def tN9 (G0 : xG_) (ln : Nat) (to lt : Nat → Nat) (c : Nat) : Nat := if G0 (ln + 7) c = 0 then to c else lt c
theorem tt_of (h : sI9 S0 G0 A sl be ln tp 72 S G m n u) (hA : 226 < A) (hT : cTt S0 G0 tp X to) (htp : tp < A ∧ tp ≠ be) (hto : ∀ c, c < 72 → to c + 2 < A ∧ (be < to c ∨ to c + 2 < be)) (hl : ∀ c, c < 72 → ¬ G0 (ln + 7) c = 0 → G0 (ln + 8) c = (lt c : Int) ∧ (lt c + 2 < A ∧ (be < lt c ∨ lt c + 2 < be)) ∧ (lt c = 0 ∧ Y c = none ∨ 226 < lt c ∧ ∃ e, Y c = some e ∧ cFm S0 G0 (lt c) e)) :
    ∃ tp2 : Nat, G be 2 = (tp2 : Int) ∧ (tp2 = tp ∧ n = 0 ∨ tp2 = A ∧ 0 < n) ∧ cTt S G tp2 (xN9 G0 ln X Y) (tN9 G0 ln to lt) := by
  obtain ⟨hS, hG, _, hc, _⟩ := h
  obtain ⟨t1, t2, t3⟩ := hT
  have fm : ∀ o e, o + 2 < A → (be < o ∨ o + 2 < be) → cFm S0 G0 o e → cFm S G o e := fun o e h1 h2 hF => hF.ge (fun a z1 z2 => hS a (by omega)) (fun a j z1 z2 => hG a j (by omega) (by omega))
  have one : ∀ c, c < 72 → ∀ v : Int, v = xT9 G0 ln tp 72 c → v = (tN9 G0 ln to lt c : Int) ∧ (tN9 G0 ln to lt c = 0 ∧ xN9 G0 ln X Y c = none ∨ 226 < tN9 G0 ln to lt c ∧ ∃ e, xN9 G0 ln X Y c = some e ∧ cFm S G (tN9 G0 ln to lt c) e) := fun c hc v hv => by
    unfold xT9 at hv
    unfold tN9 xN9
    by_cases q : G0 (ln + 7) c = 0
    · rw [if_neg (fun z => z.2 q)] at hv
      rw [if_pos q, if_pos q, hv]
      obtain ⟨a1, a2⟩ := t3 c hc
      refine ⟨a1, ?_⟩
      rcases a2 with w | ⟨w1, e, w2, w3⟩
      · exact .inl w
      · exact .inr ⟨w1, e, w2, fm _ _ (hto c hc).1 (hto c hc).2 w3⟩
    · rw [if_pos ⟨hc, q⟩] at hv
      rw [if_neg q, if_neg q, hv]
      obtain ⟨a1, ⟨a2, a3⟩, a4⟩ := hl c hc q
      refine ⟨a1, ?_⟩
      rcases a4 with w | ⟨w1, e, w2, w3⟩
      · exact .inl w
      · exact .inr ⟨w1, e, w2, fm _ _ a2 a3 w3⟩
  rcases hc with ⟨c1, c2, c3, c4, c5⟩ | ⟨c1, c2, c3, c4, c5, _⟩
  · refine ⟨tp, c2, .inl ⟨rfl, c1⟩, by rw [hS _ htp.1]; exact t1, t2, fun c hc => one c hc _ ?_⟩
    unfold xT9
    rw [if_neg (fun z => z.2 (c5 c hc)), hG _ _ htp.1 (fun z => htp.2 z.1)]
  · exact ⟨A, c2, .inr ⟨rfl, c1⟩, c3, hA, fun c hc => one c hc _ (c5 c hc)⟩
end
