/-! THE CLASS reads programs: what stands so far -/
def pKl (ins : List (Int × Int × Int)) (p : Int) : Int := pKy ins.reverse p
def cPg1 (G : xG_) (q : Nat) (ins : List (Int × Int × Int)) (outs : List Int) : Prop := ∀ p : Nat, p < 16 → G (q + 3) p = pKl ins p ∧ G (q + 4) p = b01 (pIn ins p) ∧ G (q + 5) p = b01 (pOu outs p)
def cHd (G : xG_) (q : Nat) (R : List pRu) : Prop := ∀ p : Nat, p < 16 → G (q + 6) p = b01 (pHd R p)
/-- inputs, outputs, rules; no RINGS yet -/
def cPp (S : Nat → Nat × Nat × Nat) (G : xG_) (q nx : Nat) (ins : List (Int × Int × Int)) (outs : List Int) (R : List pRu) : Prop := cPg1 G q ins outs ∧ cRl S G q nx R ∧ (∀ a j, q + 8 ≤ a → a ≤ q + 10 → G a j = 0) ∧ G q 12 = 0
def gFp (q nx : Nat) (G G' : xG_) : Prop := ∀ a j, (q + 3 ≤ a ∧ a ≤ q + 5 ∨ q + 7 ≤ a ∧ a ≤ q + 10 ∨ a = q ∧ (j = 8 ∨ j = 12) ∨ q + 10 < a ∧ a < nx) → G' a j = G a j
/-- what reading a program leaves as it was -/
def xFp (q nx : Nat) (G G' : xG_) : Prop := ∀ a j, a < nx → ¬ (a = 72 ∧ (j = 1 ∨ j = 2 ∨ j = 5 ∨ j = 9 ∨ j = 12 ∨ j = 14)) → ¬ (73 ≤ a ∧ a ≤ 81) → ¬ (q ≤ a ∧ a ≤ q + 10 ∧ ¬ (a = q ∧ j = 0)) → G' a j = G a j
/-- a program as far as it is read -/
def cPS (S : Nat → Nat × Nat × Nat) (G : xG_) (B : Nat → Int) (n : Nat) (t : tStr) (N w q nx : Nat) (s : pPg) : Prop := cEv S G B n t N w ∧ cAt G N w s.2.2.2.2.2 ∧ s.2.2.2.2.2 ≤ N ∧ cPr0 S G q true s.1 ∧ (cMe G s.2.2.2.1 ∧ cWd G q s.2.2.2.1 ∧ mPos s.2.2.2.1 ∧ 3 * s.2.2.2.1.length ≤ s.2.2.2.2.2) ∧ cPp S G q nx s.2.1 s.2.2.1 s.2.2.2.2.1 ∧ cHd G q s.2.2.2.2.1 ∧ q + 10 < nx
section
variable {f n N w i i' u q l F i0 sl p nx nx' : Nat} {S S' : Nat → Nat × Nat × Nat} {G G1 G2 G' G'' : xG_} {m : Nat × Nat} {B : Nat → Int} {t : tStr} {V V' : List (Int × Nat)} {K K' : pCd} {tell : Bool} {M : List pMn} {g : Int × Int × Int} {I : List pCd} {Ls : List pLt} {R : List pRu} {ins : List (Int × Int × Int)} {outs : List Int} {L : List Int}
theorem gFp.tr (h : gFp q nx G G') (h' : gFp q nx G' G'') : gFp q nx G G'' := fun a j z => by rw [h' a j z, h a j z]
theorem xFp.id : xFp q nx G G := fun _ _ _ _ _ _ => rfl
theorem xFp.tr (h : xFp q nx G G') (h' : xFp q nx G' G'') : xFp q nx G G'' := fun a j z1 z2 z3 z4 => by rw [h' a j z1 z2 z3 z4, h a j z1 z2 z3 z4]
theorem cPp.ge (h : cPp S G q nx ins outs R) (hS : ∀ a, a < nx → S' a = S a) (hG : gFp q nx G G') : cPp S' G' q nx ins outs R := by
  obtain ⟨a1, a2, a3, a4⟩ := h
  refine ⟨fun p hp => ?_, a2.ge (Nat.le_refl _) (hG _ _ (by omega)) (fun j _ => hG _ _ (by omega)) hS (fun a j z1 z2 => hG a j (by omega)), fun a j z1 z2 => by rw [hG a j (by omega)]; exact a3 a j z1 z2, by rw [hG _ _ (by omega)]; exact a4⟩
  rw [hG (q + 3) p (by omega), hG (q + 4) p (by omega), hG (q + 5) p (by omega)]
  exact a1 p hp
theorem cHd.ge (h : cHd G q R) (h0 : ∀ j, G' (q + 6) j = G (q + 6) j) : cHd G' q R := fun p hp => by rw [h0]; exact h p hp
theorem xFh.gp (h : xFh q u G G') (hq : 278 < q) (hqu : q + 10 < u) : gFp q u G G' ∧ (∀ j, G' (q + 6) j = G (q + 6) j) ∧ xFp q u G G' := ⟨fun a j z => h a j (by omega) (by omega) (by omega) (by omega), fun j => h _ j (by omega) (by omega) (by omega) (by omega), fun a j z1 z2 z3 z4 => h a j (by omega) (by omega) (by omega) (by omega)⟩
theorem xFi.gp (h : xFi u G G') (hq : 278 < q) (hqu : q + 10 < u) : gFp q u G G' ∧ (∀ j, G' (q + 6) j = G (q + 6) j) ∧ xFp q u G G' := ⟨fun a j z => h a j (by omega) (by omega) (by omega) (by omega) (by omega), fun j => h _ j (by omega) (by omega) (by omega) (by omega) (by omega), fun a j z1 z2 z3 z4 => h a j (by omega) (by omega) (by omega) (by omega) (by omega)⟩
theorem xF9.gp (h : xF9 q p G G') (hq : 278 < q) (hqu : q + 10 < u) : gFp q u G G' ∧ (∀ j, j ≠ p → G' (q + 6) j = G (q + 6) j) ∧ xFp q u G G' := ⟨fun a j z => h a j (by omega) (by omega) (by omega) (by omega), fun j z => h _ j (by omega) (by omega) (by omega) (by omega), fun a j z1 z2 z3 z4 => h a j (by omega) (by omega) (by omega) (by omega)⟩
theorem xF2.gp (h : xF2 tell q u G G') (hq : 278 < q) (hqu : q + 10 < u) : gFp q u G G' ∧ (∀ j, G' (q + 6) j = G (q + 6) j) ∧ xFp q u G G' := ⟨fun a j z => h a j (by omega) (by omega) (by omega) (by omega) (by omega) (by omega), fun j => h _ j (by omega) (by omega) (by omega) (by omega) (by omega) (by omega), fun a j z1 z2 z3 z4 => h a j (by omega) (by omega) (by omega) (by omega) (by omega) (by omega)⟩
/-- ITEMS and the rest of the rule under the frames -/
theorem cIt.f9 (h : cIt G u K g I) (hx : xF9 q p G G') (hu : 278 < u) (hqu : q + 10 < u) : cIt G' u K g I := h.rule (fun j _ _ => hx _ _ (by omega) (by omega) (by omega) (by omega)) (fun a j _ _ => hx _ _ (by omega) (by omega) (by omega) (by omega))
theorem cIt.f2 {D : pCd} (h : cIt G u K g I) (hx : xF2 tell q u G G') (hu : 278 < u) (hqu : q + 10 < u) : cIt G' u (K ++ D) g I := by
  have z : ∀ a j, (a = u + 7 ∨ a = u + 8) → j < 4 → G' a j = G a j := fun a j z1 z2 => hx a j (by omega) (by omega) (by omega) (by omega) (by omega) (by omega)
  have z' : ∀ j, 2 ≤ j → j ≤ 5 → G' u j = G u j := fun j z1 z2 => hx u j (by omega) (by omega) (by omega) (by omega) (by omega) (by omega)
  refine ⟨by rw [z' 2 (by decide) (by decide)]; exact h.1, h.2.1, fun c hc => (h.2.2.1 c hc).ge (z _ _ (.inl rfl) (by have := h.2.1; omega)) (z _ _ (.inr rfl) (by have := h.2.1; omega)), fun c z1 z2 => ?_, h.2.2.2.2.ge (fun j z1 z2 => z' j (by omega) z2)⟩
  rw [z _ _ (.inl rfl) z2, z _ _ (.inr rfl) z2]
  exact h.2.2.2.1 c z1 z2
theorem xFi.hd (h : xFi u G G') (hu : 278 < u) : G' u 0 = G u 0 ∧ G' u 1 = G u 1 ∧ (∀ j, G' (u + 9) j = G (u + 9) j) ∧ G' u 8 = G u 8 := ⟨h _ _ (by omega) (by omega) (by omega) (by omega) (by omega), h _ _ (by omega) (by omega) (by omega) (by omega) (by omega), fun j => h _ _ (by omega) (by omega) (by omega) (by omega) (by omega), h _ _ (by omega) (by omega) (by omega) (by omega) (by omega)⟩
theorem xFh.hd (h : xFh q u G G') (hu : 278 < u) (hqu : q + 10 < u) : (∀ j, G' (u + 9) j = G (u + 9) j) ∧ G' u 8 = G u 8 := ⟨fun j => h _ _ (by omega) (by omega) (by omega) (by omega), h _ _ (by omega) (by omega) (by omega) (by omega)⟩
theorem xF9.hd (h : xF9 q p G G') (hu : 278 < u) (hqu : q + 10 < u) : G' u 0 = G u 0 ∧ G' u 1 = G u 1 ∧ (∀ j, G' (u + 9) j = G (u + 9) j) ∧ G' u 8 = G u 8 := ⟨h _ _ (by omega) (by omega) (by omega) (by omega), h _ _ (by omega) (by omega) (by omega) (by omega), fun j => h _ _ (by omega) (by omega) (by omega) (by omega), h _ _ (by omega) (by omega) (by omega) (by omega)⟩
theorem xF2.hd (h : xF2 tell q u G G') (hu : 278 < u) (hqu : q + 10 < u) : G' u 0 = G u 0 ∧ G' u 1 = G u 1 ∧ (∀ j, G' (u + 9) j = G (u + 9) j) := ⟨h _ _ (by omega) (by omega) (by omega) (by omega) (by omega) (by omega), h _ _ (by omega) (by omega) (by omega) (by omega) (by omega) (by omega), fun j => h _ _ (by omega) (by omega) (by omega) (by omega) (by omega) (by omega)⟩
theorem xFh.me (h : xFh q u G G') (hM : cMe G M) (hW : cWd G q M) (hq : 278 < q) (hqu : q + 10 < u) : cMe G' M ∧ cWd G' q M := ⟨hM.ge (h _ _ (by omega) (by omega) (by omega) (by omega)) (fun a k z1 z2 => h _ _ (by omega) (by omega) (by omega) (by omega)), hW.ge (fun j => h _ _ (by omega) (by omega) (by omega) (by omega))⟩
theorem xFi.me (h : xFi u G G') (hM : cMe G M) (hW : cWd G q M) (hq : 278 < q) (hqu : q + 10 < u) : cMe G' M ∧ cWd G' q M := ⟨hM.ge (h _ _ (by omega) (by omega) (by omega) (by omega) (by omega)) (fun a k z1 z2 => h _ _ (by omega) (by omega) (by omega) (by omega) (by omega)), hW.ge (fun j => h _ _ (by omega) (by omega) (by omega) (by omega) (by omega))⟩
theorem xFi.pr (h : xFi u G G') (hr : cPr0 S G q true L) (hqu : q + 10 < u) : cPr0 S G' q true L := by
  have hq := hr.2.2.1 rfl
  exact hr.ge (h _ _ (by omega) (by omega) (by omega) (by omega) (by omega)) (h _ _ (by omega) (by omega) (by omega) (by omega) (by omega)) (fun j _ _ _ => h _ _ (by omega) (by omega) (by omega) (by omega) (by omega)) (fun j => h _ _ (by omega) (by omega) (by omega) (by omega) (by omega))
/-- what a rule that is begun leaves -/
theorem new_p (hG : ∀ a j, a < u → ¬ (a = 72 ∧ (j = 5 ∨ j = 9)) → G' a j = G a j) (hq : 278 < q) (hqu : q + 10 < u) : gFp q u G G' ∧ (∀ j, G' (q + 6) j = G (q + 6) j) ∧ xFp q u G G' := ⟨fun a j z => hG a j (by omega) (by omega), fun j => hG _ j (by omega) (by omega), fun a j z1 z2 z3 z4 => hG a j z1 (by omega)⟩
theorem new_m (hG : ∀ a j, a < u → ¬ (a = 72 ∧ (j = 5 ∨ j = 9)) → G' a j = G a j) (hM : cMe G M) (hW : cWd G q M) (hq : 278 < q) (hqu : q + 10 < u) : cMe G' M ∧ cWd G' q M := ⟨hM.ge (hG _ _ (by omega) (by omega)) (fun a k z1 z2 => hG _ _ (by omega) (by omega)), hW.ge (fun j => hG _ _ (by omega) (by omega))⟩
theorem new_r (hS : ∀ a, a < u → S' a = S a) (hG : ∀ a j, a < u → ¬ (a = 72 ∧ (j = 5 ∨ j = 9)) → G' a j = G a j) (hr : cPr0 S G q true L) (hqu : q + 10 < u) : cPr0 S' G' q true L := by
  have hq := hr.2.2.1 rfl
  exact hr.sg (fun a z1 z2 => hS a (by omega)) (hG _ _ (by omega) (by omega)) (hG _ _ (by omega) (by omega)) (fun j _ _ _ => hG _ _ (by omega) (by omega)) (fun j => hG _ _ (by omega) (by omega))
end
