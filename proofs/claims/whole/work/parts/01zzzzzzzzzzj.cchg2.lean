/-! THE CLASS: one CHANGE -/
def cCs (G : xG_) (L : List Int) (cs : List pCh) : Prop := G 72 14 = (cs.length : Int) ∧ ∀ k, k < cs.length → G 79 k = (cs.getD k dCh).1 ∧ G 78 k = pIdx L (cs.getD k dCh).2.1 ∧ G 80 k = ((cs.getD k dCh).2.2.1 : Int) ∧ G 81 k = ((cs.getD k dCh).2.2.2.length : Int) ∧ (cs.getD k dCh).2.2.2.length ≤ 4 ∧ ∀ j, j < (cs.getD k dCh).2.2.2.length → G 82 (4 * k + j) = (cs.getD k dCh).2.2.2.getD j 0
def xFw (G G' : xG_) : Prop := ∀ a j, ¬ (a = 72 ∧ (j = 1 ∨ j = 2 ∨ j = 14)) → ¬ (78 ≤ a ∧ a ≤ 82) → G' a j = G a j
def cCe (S : Nat → Nat × Nat × Nat) (G : xG_) (B : Nat → Int) (n : Nat) (t : tStr) (N q : Nat) (L : List Int) (i : Nat) : Prop := cEv S G B n t N N ∧ cAt G N N i ∧ i ≤ N ∧ cPr0 S G q false L
section
variable {f n N i j q x : Nat} {S : Nat → Nat × Nat × Nat} {G G1 G2 G' : xG_} {m : Nat × Nat} {B : Nat → Int} {t : tStr} {L : List Int} {cs : List pCh} {sg p : Int} {sp : Nat} {vs : List Int} {r8 : Nat → Int → xT_ → Option ((Nat ⊕ Unit) × xT_)}
theorem xFw.id : xFw G G := fun _ _ _ _ => rfl
theorem xFw.tr (h1 : xFw G G1) (h2 : xFw G1 G2) : xFw G G2 := fun a j z1 z2 => by rw [h2 a j z1 z2, h1 a j z1 z2]
theorem xFw.a1 {v : Int} : xFw G (xup2 G 72 1 v) := fun a j z1 z2 => xup2_n (by omega)
theorem cCe.fr (h : cCe S G B n t N q L i) (hf : xFw G G') (hA : cAt G' N N j) (hj : j ≤ N) : cCe S G' B n t N q L j := by
  obtain ⟨a1, a2, a3, a4⟩ := h
  have hq := a4.2.1
  exact ⟨a1.ge (fun _ _ => rfl) (fun a j z1 z2 z3 => hf a j (by omega) (by omega)), hA, hj, a4.ge (hf _ _ (by omega) (by omega)) (hf _ _ (by omega) (by omega)) (fun j _ _ _ => hf _ _ (by omega) (by omega)) (fun j => hf _ _ (by omega) (by omega))⟩
theorem cCs.fr (h : cCs G L cs) (h0 : G' 72 14 = G 72 14) (h1 : ∀ a k, 78 ≤ a → a ≤ 81 → G' a k = G a k) (h2 : ∀ k, k < 4 * cs.length → G' 82 k = G 82 k) : cCs G' L cs := by
  refine ⟨by rw [h0]; exact h.1, fun k hk => ?_⟩
  obtain ⟨a1, a2, a3, a4, a5, a6⟩ := h.2 k hk
  rw [h1 _ _ (by omega) (by omega), h1 _ _ (by omega) (by omega), h1 _ _ (by omega) (by omega), h1 _ _ (by omega) (by omega)]
  exact ⟨a1, a2, a3, a4, a5, fun j hj => by rw [h2 _ (by omega)]; exact a6 j hj⟩
/-- ) and . behind the VALUES -/
theorem k_141 (hx : x < 1024) (h : cCe S G B n t N q L i) (hC : cCs G L cs) (hl : cs.length = x) (hv : ∀ k, k < vs.length → G 82 (4 * x + k) = vs.getD k 0) (hv4 : vs.length ≤ 4) (c : pCh) (hc : c = (sg, c.2.1, sp, vs)) (hp : p = pIdx L c.2.1) :
    pok (pbind (pNeed t 41 i) fun j => pNeed t 46 j) (fun w => ∃ G', c32_141 r8 f 72 (x : Int) sg (sp : Int) p (vs.length : Int) (S, G, m) = some (.inl 0, cWr S G' m (w : Int)) ∧ xFw G G')
      (fun j => ∃ G', c32_141 r8 f 72 (x : Int) sg (sp : Int) p (vs.length : Int) (S, G, m) = r8 72 ((x + 1 : Nat) : Int) (S, G', m) ∧ xFw G G' ∧ j = i + 2 ∧ cCe S G' B n t N q L j ∧ cCs G' L (cs ++ [c])) := by
  have hs := h.1.1
  have p1 := k_38 (f := f) (m := m) (c := 41) (by decide) h.1 h.2.1
  cases hn : pNeed t 41 i with
  | inl w =>
    rw [hn] at p1
    exact ⟨G, by rw [st_141a hs p1]; rfl, .id⟩
  | inr j =>
    rw [hn] at p1
    obtain ⟨a1, a2, a3, a4⟩ := p1
    have hlt := (h.1.lt h.2.1 (by omega)).1
    have h1 : cCe S (xup2 G 72 1 ((min j N : Nat) : Int)) B n t N q L j := h.fr .a1 a4 (by omega)
    have p2 := k_38 (f := f) (m := m) (c := 46) (by decide) h1.1 h1.2.1
    show pok (pNeed t 46 j) _ _
    cases hn2 : pNeed t 46 j with
    | inl w =>
      rw [hn2] at p2
      exact ⟨_, by rw [st_141a hs a1, st_141b hs p2]; rfl, .a1⟩
    | inr j2 =>
      rw [hn2] at p2
      obtain ⟨b1, b2, b3, b4⟩ := p2
      have hlt2 := (h1.1.lt h1.2.1 (by omega)).1
      obtain ⟨G2, hG2⟩ : ∃ G2, G2 = xup2 (xup2 G 72 1 ((min j N : Nat) : Int)) 72 1 ((min j2 N : Nat) : Int) := ⟨_, rfl⟩
      rw [← hG2] at b1 b4
      have z2 : ∀ a k, ¬ (a = 72 ∧ k = 1) → G2 a k = G a k := fun a k z => by rw [hG2, xup2_n z, xup2_n z]
      have h2 : cCe S G2 B n t N q L j2 := h.fr (fun a k w1 w2 => z2 a k (by omega)) b4 (by omega)
      have e40 := k_40 (f := f) (m := m) (k := sg) (p := p) (s := (sp : Int)) (d := (vs.length : Int)) hs h2.1.2.1 (by rw [z2 _ _ (by omega)]; rw [← hl]; exact hC.1) hx
      have ek : xwr ((x : Int) + 1) = ((x + 1 : Nat) : Int) := by rw [xwr_g _ (by omega) (by omega)]; omega
      have fr3 : xFw G2 (mSt G2 x sg p (sp : Int) (vs.length : Int)) := fun a k w1 w2 => mSt_n a k (by omega) (by omega)
      refine ⟨mSt G2 x sg p (sp : Int) (vs.length : Int), by rw [st_141a hs a1, st_141b hs b1, st_141c hs e40, ek]; rfl, fun a k w1 w2 => by rw [fr3 a k w1 w2, z2 a k (by omega)], by omega, h2.fr fr3 ?_ h2.2.2.1, ?_⟩
      · exact ⟨by rw [mSt_n _ _ (by omega) (by omega)]; exact b4.1, b4.2⟩
      · refine ⟨by unfold mSt; rw [xup2_s, len1, hl], fun k hk => ?_⟩
        rw [len1] at hk
        rw [getD_1]
        by_cases ck : k = cs.length
        · rw [if_pos ck, hc]
          subst ck
          rw [hl]
          unfold mSt
          refine ⟨?_, ?_, ?_, ?_, hv4, fun j hj => ?_⟩
          · rw [xup2_n (by omega), xup2_n (by omega), xup2_n (by omega), xup2_n (by omega), xup2_s]
          · rw [xup2_n (by omega), xup2_n (by omega), xup2_n (by omega), xup2_s]; exact hp
          · rw [xup2_n (by omega), xup2_n (by omega), xup2_s]
          · rw [xup2_n (by omega), xup2_s]
          · rw [xup2_n (by omega), xup2_n (by omega), xup2_n (by omega), xup2_n (by omega), xup2_n (by omega), z2 _ _ (by omega)]
            exact hv j hj
        · rw [if_neg ck]
          obtain ⟨y1, y2, y3, y4, y5, y6⟩ := hC.2 k (by omega)
          have kx : k ≠ x := by omega
          unfold mSt
          refine ⟨?_, ?_, ?_, ?_, y5, fun j hj => ?_⟩
          · rw [xup2_n (by omega), xup2_n (by omega), xup2_n (by omega), xup2_n (by omega), xup2_n (by omega), z2 _ _ (by omega)]; exact y1
          · rw [xup2_n (by omega), xup2_n (by omega), xup2_n (by omega), xup2_n (by omega), xup2_n (by omega), z2 _ _ (by omega)]; exact y2
          · rw [xup2_n (by omega), xup2_n (by omega), xup2_n (by omega), xup2_n (by omega), xup2_n (by omega), z2 _ _ (by omega)]; exact y3
          · rw [xup2_n (by omega), xup2_n (by omega), xup2_n (by omega), xup2_n (by omega), xup2_n (by omega), z2 _ _ (by omega)]; exact y4
          · rw [xup2_n (by omega), xup2_n (by omega), xup2_n (by omega), xup2_n (by omega), xup2_n (by omega), z2 _ _ (by omega)]
            exact y6 j hj
end
