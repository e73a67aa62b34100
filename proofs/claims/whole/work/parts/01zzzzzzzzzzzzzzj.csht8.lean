/-! THE CLASS: the SHEET: countWorked() as the spec says -/
section
variable {f mo q ah ac cc ln tp : Nat} {S : Nat → Nat × Nat × Nat} {G : xG_} {m : Nat × Nat} {s : pPg} {X : fXs} {to : Nat → Nat} {fr : Int} {ch : Nat} {C D : fCs} {W : Nat → Int} {H : Nat → Prop}
theorem k_103 (hf : 100 < f) (hch : ch < 2147483648) (h : cCw S G mo q ln tp s X to fr) (h1 : G 216 1 = (cc : Int)) (hcc : S cc = (2, 4, 72)) (ha : S ah = (1, 2, 8)) (h3 : G ah 3 = (ac : Int)) (hac : S ac = (2, 4, 72)) (hC : okC C) (hD : okC D) (gD : ∀ x, x < 72 → G cc x = eC (D x)) (gC : ∀ x, x < 72 → G ac x = eC (C x)) (hv : ∀ y, y < 72 → 0 ≤ G (ln + 3) y ∧ G (ln + 3) y ≤ 100000) (ht : ∀ y, ¬ G (ln + 7) y = 0 ↔ W y ≠ -1) (hH : ∀ p, p < s.1.length → (ch.testBit p = true ↔ H p)) :
    ∃ G', c103 f 216 ah ln (ch : Int) (S, G, m) = some (S, G', m) ∧ xL3 ln G G' ∧ ∀ c, c < 72 → (qCw X s (fr = 1) W C D H c → G' (ln + 3) c = G (ln + 3) c + 1) ∧ (¬ qCw X s (fr = 1) W C D H c → G' (ln + 3) c = G (ln + 3) c) := by
  obtain ⟨lo, hi, Dm, a1, a2, a3⟩ := k_103a (f := f) (m := m) (ln := ln) (ch := (ch : Int)) h.1.1 h1 hcc ha h3 hac 72 0 f 0 0 0 (by omega) (by omega) .z (fun x => by
    rw [Nat.zero_testBit]
    constructor
    · intro z; cases z
    · rintro ⟨z, _⟩; omega)
  obtain ⟨G', b1, b2, _, b4⟩ := k_103b (f := f) (m := m) (ch := ch) hf hch a2 (fun y => W y ≠ -1) 72 0 f G (by omega) (by omega) h (fun y _ hy => hv y hy) ht
  refine ⟨G', a1.trans b1, b2, fun c hc => ?_⟩
  have hP : cwP X s (fun y => W y ≠ -1) Dm ch fr c ↔ qCw X s (fr = 1) W C D H c := by
    have hd : ∀ x, x < 72 → (Dm.testBit x = true ↔ D x ≠ C x) := fun x hx => by
      rw [a3 x, gD x hx, gC x hx]
      have := eC_inj (hD x hx) (hC x hx)
      constructor
      · rintro ⟨_, z⟩ e; exact z (this.mpr e)
      · intro z; exact ⟨hx, fun e => z (this.mp e)⟩
    unfold cwP qCw
    constructor
    · rintro ⟨w0, w | ⟨x, x1, x2, x3⟩ | w | ⟨p, p1, p2, p3⟩⟩
      · exact ⟨w0, .inl w⟩
      · exact ⟨w0, .inr (.inr (.inl ⟨x, x1, x2, (hd x x1).mp x3⟩))⟩
      · exact ⟨w0, .inr (.inl w)⟩
      · exact ⟨w0, .inr (.inr (.inr ⟨p, p1, p2, (hH p p1).mp p3⟩))⟩
    · rintro ⟨w0, w | w | ⟨x, x1, x2, x3⟩ | ⟨p, p1, p2, p3⟩⟩
      · exact ⟨w0, .inl w⟩
      · exact ⟨w0, .inr (.inr (.inl w))⟩
      · exact ⟨w0, .inr (.inl ⟨x, x1, x2, (hd x x1).mpr x3⟩)⟩
      · exact ⟨w0, .inr (.inr (.inr ⟨p, p1, p2, (hH p p1).mpr p3⟩))⟩
  have := b4 c (Nat.zero_le _) hc
  rw [hP] at this
  exact this
end
