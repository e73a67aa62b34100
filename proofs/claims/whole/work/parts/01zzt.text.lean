/-! Texts that are kept, and what they say -/
/-- a text's bytes; -1 behind it -/
def tBt (t : List Int) : Nat → Int := fun p => if p < t.length then t.getD p 0 else -1
/-- the program of a text -/
def qPr (t : List Int) : Nat ⊕ pPg := pProg (tstr (tBt t) t.length false) (4 * (t.length + 1) + 4) (t.length + 2) ([], [], [], [], [], 0)
/-- the text t lies from q on in a row of bytes -/
def rTe (G : xG_) (b q : Nat) (t : List Int) : Prop := rTt G b q t.length ∧ ∀ p, p < t.length → xand (G b (q + p)) 255 = t.getD p 0
theorem rTe.by {G : xG_} {b q : Nat} {t : List Int} (h : rTe G b q t) : rBy G b q t.length = tBt t := by
  funext p
  unfold rBy tBt
  by_cases c : p < t.length
  · rw [if_pos c, if_pos c, h.2 p c]
  · rw [if_neg c, if_neg c]
theorem rTe.ge {G G' : xG_} {b q : Nat} {t : List Int} (h : rTe G b q t) (he : ∀ j, G' b j = G b j) : rTe G' b q t := by
  obtain ⟨⟨a1, a2, a3⟩, a4⟩ := h
  exact ⟨⟨a1, a2, fun p hp => by rw [he]; exact a3 p hp⟩, fun p hp => by rw [he]; exact a4 p hp⟩
/-- the texts T are kept; m bytes in all -/
def rTxs (G : xG_) (T : List (List Int)) (m : Nat) : Prop := G 0 71 = (T.length : Int) ∧ G 0 72 = (m : Int) ∧ T.length ≤ 4200 ∧ m ≤ 90000 ∧
  ∀ k, k < T.length → (T.getD k []).length ≤ 3000 ∧ ∃ q : Nat, G 241 k = (q : Int) ∧ G 242 k = ((T.getD k []).length : Int) ∧ q + (T.getD k []).length ≤ m ∧ rTe G 239 q (T.getD k [])
theorem rTxs.ge {G G' : xG_} {T : List (List Int)} {m : Nat} (h : rTxs G T m) (h1 : G' 0 71 = G 0 71) (h2 : G' 0 72 = G 0 72) (h3 : ∀ a j, a = 239 ∨ a = 241 ∨ a = 242 → G' a j = G a j) : rTxs G' T m := by
  obtain ⟨a1, a2, a3, a4, a5⟩ := h
  refine ⟨by rw [h1]; exact a1, by rw [h2]; exact a2, a3, a4, fun k hk => ?_⟩
  obtain ⟨b0, q, b1, b2, b3, b4⟩ := a5 k hk
  exact ⟨b0, q, by rw [h3 _ _ (by omega)]; exact b1, by rw [h3 _ _ (by omega)]; exact b2, b3, b4.ge (fun j => h3 _ _ (by omega))⟩
/-- the tape holds t -/
def rTp (G : xG_) (t : List Int) : Prop := G 0 73 = (t.length : Int) ∧ t.length ≤ 3000 ∧ rTe G 240 0 t
theorem xl240 : ((xl_t 240).2.2 : Int) = 3000 := by decide +kernel
theorem xl239 : ((xl_t 239).2.2 : Int) = 90000 := by decide +kernel
section
variable {f o b q : Nat} {G : xG_} {t : List Int}
theorem l_rt (hf : 3020 < f) (hn : t.length ≤ 3000) (ho : o = 2 ∨ o = 37 ∨ o = 72) (hC : rC G) (h : rTe G b q t) :
    pok (qPr t) (fun w => ∃ G', g231 f o b q ((q : Int) + t.length) G = some G' ∧ G' 0 7 = (q : Int) + w ∧ xfp o G G')
      (fun s => ∃ G', ∃ c : Nat, g231 f o b q ((q : Int) + t.length) G = some G' ∧ G' 0 7 = -1 ∧ G' 0 22 = (o : Int) ∧ xfp o G G' ∧ rPr G' o q c s ∧ (∀ y, y < 16 → G' (o + 2) y = 0) ∧ wPg s ∧ ∀ i j, i < j → j < s.2.2.2.1.length → mP s.2.2.2.1 i < mP s.2.2.2.1 j) := by
  have hh := l_rd (f := f) (o := o) (F := 4 * (t.length + 1) + 4) (K := t.length + 2) (by omega) hn (by omega) (by omega) ho hC h.1
  rw [h.by] at hh
  exact hh
/-- findParts of a program that was read -/
theorem l_254 {c : Nat} {s : pPg} (hf : 500 < f) (ho : o = 2 ∨ o = 37 ∨ o = 72) (h : rPr G o q c s) (hz : ∀ y, y < 16 → G (o + 2) y = 0) (hso : ∀ i j, i < j → j < s.2.2.2.1.length → mP s.2.2.2.1 i < mP s.2.2.2.1 j) :
    ∃ G', g254 f o G = some G' ∧ xfn o G G' ∧ rPr G' o q c s ∧ rPn G' o s := by
  obtain ⟨a1, a2, a3, a4, a5⟩ := h
  have hS : rF G (fun k a => G 0 26 ≠ 0 ∧ k = G 0 26 ∧ a = G 0 27) := by
    by_cases c0 : G 0 26 = 0
    · exact .inl ⟨c0, fun k a h => h.1 c0⟩
    · exact .inr ⟨c0, ⟨c0, rfl, rfl⟩, fun k a h => .inr ⟨h.2.1.symm, Int.le_of_eq h.2.2.symm⟩⟩
  obtain ⟨G', e1, e2, e3, e4, e5⟩ := l_parts (f := f) (o := o) (q := q) (M := s.2.2.2.1) (np := s.1.length) (by have := a2.1; omega) (by omega) a1.2.1 hso s.1.length 0 f G _ (by omega) (by have := a1.2.1; omega) a1.1 a2 (fun y _ hy => hz y (by have := a1.2.1; omega)) hS
  refine ⟨G', ?_, e2, rPr.ge ⟨a1, a2, a3, a4, a5⟩ (fun j => e2 _ _ (by omega) (by omega)) (fun a j _ _ _ _ _ => e2 _ _ (by omega) (by omega)), fun y hy => e4 y (by omega) hy⟩
  unfold g254
  exact e1
end
