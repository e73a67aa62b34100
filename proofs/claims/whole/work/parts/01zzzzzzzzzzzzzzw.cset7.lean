/-! No CELL is worked where nothing has changed -/
theorem cw_no {X : fXs} {s : pPg} {fr : Prop} {W : Nat → Int} {C D : fCs} {H : Nat → Prop} (hW : ∀ c, c < 72 → W c = -1) (hD : ∀ x, x < 72 → D x = C x) (hH : ∀ p, p < s.1.length → ¬ H p) (hf : ∀ c, c < 72 → X c ≠ none → ¬ fr) : ∀ c, c < 72 → ¬ qCw X s fr W C D H c := by
  rintro c hc ⟨h0, h | h | ⟨x, x1, _, x3⟩ | ⟨p, p1, _, p3⟩⟩
  · exact h (hW c hc)
  · exact hf c hc h0 h.1
  · exact x3 (hD x x1)
  · exact hH p p1 p3
