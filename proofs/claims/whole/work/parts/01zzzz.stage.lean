/-! Levels of the reference: one -/
/-- the ring of a predicate -/
def qK (s : pPg) (p : Nat) : Nat := qRs s.1.length s.2.2.2.2.1 p
/-- xs is a new row of p at the level st of the ring rg, from the first rm rules -/
def stD (s : pPg) (rg : Nat) (st : Int) (R : Nat → List pRw) (rm : Nat) (p : Nat) (xs : List Int) : Prop := ∃ r, r < rm ∧ r < s.2.2.2.2.1.length ∧ (s.2.2.2.2.1.getD r dRu).1 = (p : Int) ∧ qK s p = rg ∧ (qG (s.2.2.2.2.1.getD r dRu) ≠ 0 → st = 1) ∧ rlD (s.2.2.2.2.1.getD r dRu) R xs ∧ rNw R p xs
/-- too many rows -/
def stO (s : pPg) (rg : Nat) (st : Int) (R : Nat → List pRw) : Prop := ∃ (F : List pFw) (p : Nat), F.Nodup ∧ p < s.1.length ∧ (∀ y ∈ F, stD s rg st R s.2.2.2.2.1.length y.1 y.2) ∧ 100 < (R p).length + fCt F p
def rOs (s : pPg) (rg : Nat) (st : Int) (R : Nat → List pRw) (rm : Nat) (G : xG_) : Prop :=
  (G 0 43 = 0 ∧ ∃ F, rFr G s.1.length (qN s) R F ∧ F.Nodup ∧ ∀ y, y ∈ F ↔ stD s rg st R rm y.1 y.2) ∨ (G 0 43 ≠ 0 ∧ stO s rg st R)
section
variable {f q c : Nat} {s : pPg} {R : Nat → List pRw} {rg : Nat} {st : Int} {r12 : Int → Int → xG_ → Option (Int × xG_)}
theorem l_52 (hf : 1000100 < f) (hok : qOk s) (hT : qTb s R) (hst : 1 ≤ st) : ∀ (d r fu : Nat) (G : xG_), r + d = s.2.2.2.2.1.length → d < fu → rEn G q c s R → G 0 40 = -1 → rOs s rg st R r G → ∃ G', g293_52 r12 f fu (rg : Int) st (r : Int) G = g293_159 r12 f (rg : Int) st G' ∧ xSt G G' ∧ rOs s rg st R s.2.2.2.2.1.length G' := by
  intro d
  induction d with
  | zero =>
    intro r fu G h1 h2 hE h40 hO
    obtain ⟨fu, rfl⟩ : ∃ t, fu = t + 1 := ⟨fu - 1, by omega⟩
    have h9 : G 2 9 = (s.2.2.2.2.1.length : Int) := hE.1.2.2.1.1
    have er : r = s.2.2.2.2.1.length := by omega
    refine ⟨G, ?_, fun _ _ _ _ => rfl, by rw [er] at hO; exact hO⟩
    show g293_52b r12 (g293_52 r12 f fu) f _ _ _ _ = _
    unfold g293_52b
    rw [h9, if_pos (by omega)]
  | succ d ih =>
    intro r fu G h1 h2 hE h40 hO
    obtain ⟨fu, rfl⟩ : ∃ t, fu = t + 1 := ⟨fu - 1, by omega⟩
    have hr : r < s.2.2.2.2.1.length := by omega
    have h9 : G 2 9 = (s.2.2.2.2.1.length : Int) := hE.1.2.2.1.1
    obtain ⟨u, eu, u1, u2, u3, u4, u5, u6, p, p1, p2, p3⟩ := rul hok hE hr
    have hnp : s.1.length ≤ 16 := hok.1.1
    have h15 : G 15 r = (p : Int) := by rw [← p1]; exact u4.1
    have h18 : G 18 r = qG u := u4.2.2.1.1
    have h7 : G 7 p = (qK s p : Int) := hE.2.2.1.2 p p2
    have er : xwr ((r : Int) + 1) = ((r + 1 : Nat) : Int) := by rw [xwr_g _ (by omega) (by omega)]; omega
    have hrr : 0 ≤ (r : Int) ∧ (r : Int) < 25 := by omega
    have hpp : 0 ≤ (p : Int) ∧ (p : Int) < 16 := by omega
    rcases hO with ⟨h43, F, f1, f2, f3⟩ | ⟨h43, hov⟩
    · have n43 : ¬ ¬ G 0 43 = 0 := fun q => q h43
      have step : g293_52 r12 f (fu + 1) (rg : Int) st (r : Int) G = if ¬ (qK s p : Int) = (rg : Int) then g293_52 r12 f fu (rg : Int) st ((r + 1 : Nat) : Int) G else if qG u = 0 then g293_111 r12 (g293_52 r12 f fu) f (rg : Int) st (r : Int) G else if st ≤ 1 then g293_111 r12 (g293_52 r12 f fu) f (rg : Int) st (r : Int) G else g293_52 r12 f fu (rg : Int) st ((r + 1 : Nat) : Int) G := by
        show g293_52b r12 (g293_52 r12 f fu) f _ _ _ _ = _
        unfold g293_52b g293_153
        rw [h9, if_neg (by omega), if_neg n43, if_pos hrr]
        simp only [Nat.reduceAdd, Int.toNat_natCast]
        simp only [h15, if_pos hpp, Int.toNat_natCast, h7, h18, if_pos hrr, er]
      have skip : (¬ ∃ xs, stD s rg st R (r + 1) p xs ∧ ¬ stD s rg st R r p xs) → g293_52 r12 f (fu + 1) (rg : Int) st (r : Int) G = g293_52 r12 f fu (rg : Int) st ((r + 1 : Nat) : Int) G → ∃ G', g293_52 r12 f (fu + 1) (rg : Int) st (r : Int) G = g293_159 r12 f (rg : Int) st G' ∧ xSt G G' ∧ rOs s rg st R s.2.2.2.2.1.length G' := fun hn he => by
        rw [he]
        refine ih (r + 1) fu G (by omega) (by omega) hE h40 (.inl ⟨h43, F, f1, f2, fun y => ?_⟩)
        rw [f3 y]
        constructor
        · rintro ⟨r', a1, a2⟩
          exact ⟨r', by omega, a2⟩
        · rintro ⟨r', a1, a2, a3, a4⟩
          by_cases cr : r' = r
          · rw [cr, ← eu, p1] at a3
            have ey : y.1 = p := by omega
            refine Classical.byContradiction (fun nn => hn ⟨y.2, ⟨r', a1, a2, ?_, ?_⟩, ?_⟩)
            · rw [cr, ← eu, p1]
            · rw [← ey]; exact a4
            · rw [← ey]; exact nn
          · exact ⟨r', by omega, a2, a3, a4⟩
      have only : ∀ xs, stD s rg st R (r + 1) p xs → stD s rg st R r p xs ∨ (qK s p = rg ∧ (qG u ≠ 0 → st = 1) ∧ rlD u R xs ∧ rNw R p xs) := fun xs ⟨r', a1, a2, a3, a4, a5, a6, a7⟩ => by
        by_cases cr : r' = r
        · rw [cr, ← eu] at a5 a6
          exact .inr ⟨a4, a5, a6, a7⟩
        · exact .inl ⟨r', by omega, a2, a3, a4, a5, a6, a7⟩
      have use : qK s p = rg → (qG u ≠ 0 → st = 1) → g293_52 r12 f (fu + 1) (rg : Int) st (r : Int) G = g293_111 r12 (g293_52 r12 f fu) f (rg : Int) st (r : Int) G → ∃ G', g293_52 r12 f (fu + 1) (rg : Int) st (r : Int) G = g293_159 r12 f (rg : Int) st G' ∧ xSt G G' ∧ rOs s rg st R s.2.2.2.2.1.length G' := fun hk hs he => by
        obtain ⟨G1, p', g1, g2, g3, g4, g5⟩ := l_rul (f := f) (r12 := r12) (r52 := g293_52 r12 f fu) (x1 := (rg : Int)) (x2 := st) hf hok hE hT hr h40 h43 f1 f2
        rw [← eu] at g1 g5
        have epp : p' = p := by omega
        subst epp
        have hE1 : rEn G1 q c s R := hE.ge (fun a j _ _ => g4 _ _ (by omega) (by omega)) (fun a j _ _ => g4 _ _ (by omega) (by omega))
        have iffD : ∀ y : pFw, (y ∈ F ∨ (y.1 = p' ∧ rlD u R y.2 ∧ rNw R p' y.2)) ↔ stD s rg st R (r + 1) y.1 y.2 := fun y => by
          rw [f3 y]
          constructor
          · rintro (⟨r', a1, a2⟩ | ⟨a1, a2, a3⟩)
            · exact ⟨r', by omega, a2⟩
            · exact ⟨r, by omega, hr, by rw [← eu, p1, a1], by rw [a1]; exact hk, by rw [← eu]; exact hs, by rw [← eu]; exact a2, by rw [a1]; exact a3⟩
          · rintro ⟨r', a1, a2, a3, a4, a5, a6, a7⟩
            by_cases cr : r' = r
            · rw [cr, ← eu] at a3 a6
              have : y.1 = p' := by omega
              exact .inr ⟨this, a6, by rw [← this]; exact a7⟩
            · exact .inl ⟨r', by omega, a2, a3, a4, a5, a6, a7⟩
        have hO1 : rOs s rg st R (r + 1) G1 := by
          rcases g5 with ⟨b1, F', b2, b3, b4⟩ | ⟨b1, F', b2, b3, b4⟩
          · exact .inl ⟨b1, F', b2, b3, fun y => (b4 y).trans (iffD y)⟩
          · refine .inr ⟨b1, F', p', b2, p2, fun y hy => ?_, b4⟩
            obtain ⟨r', a1, a2⟩ := (iffD y).mp (b3 y hy)
            exact ⟨r', by omega, a2⟩
        obtain ⟨G2, k1, k2, k3⟩ := ih (r + 1) fu G1 (by omega) (by omega) hE1 (by rw [g4 _ _ (by omega) (by omega)]; exact h40) hO1
        exact ⟨G2, by rw [he, g3, k1], fun o j y1 y2 => by rw [k2 o j y1 y2, g4 o j y1 y2], k3⟩
      by_cases ck : qK s p = rg
      · have n1 : ¬ ¬ (qK s p : Int) = (rg : Int) := fun q => q (by rw [ck])
        rw [if_neg n1] at step
        by_cases cg : qG u = 0
        · rw [if_pos cg] at step
          exact use ck (fun q => absurd cg q) step
        · rw [if_neg cg] at step
          by_cases cs : st ≤ 1
          · rw [if_pos cs] at step
            exact use ck (fun _ => by omega) step
          · rw [if_neg cs] at step
            refine skip (fun ⟨xs, a, b⟩ => ?_) step
            rcases only xs a with z | z
            · exact b z
            · have := z.2.1 cg; omega
      · have n1 : ¬ (qK s p : Int) = (rg : Int) := by omega
        rw [if_pos n1] at step
        refine skip (fun ⟨xs, a, b⟩ => ?_) step
        rcases only xs a with z | z
        · exact b z
        · exact ck z.1
    · refine ⟨G, ?_, fun _ _ _ _ => rfl, .inr ⟨h43, hov⟩⟩
      show g293_52b r12 (g293_52 r12 f fu) f _ _ _ _ = _
      unfold g293_52b
      rw [h9, if_neg (by omega), if_pos h43]
end
