/-! THE CLASS: readChanges() -/
section
variable {f n N i j q x : Nat} {S : Nat → Nat × Nat × Nat} {G G1 G2 G' : xG_} {m : Nat × Nat} {B : Nat → Int} {t : tStr} {L : List Int} {cs : List pCh} {sg p nm : Int} {sp : Nat} {r8 : Nat → Int → xT_ → Option ((Nat ⊕ Unit) × xT_)}
theorem pbind_pk {α β : Type} {X : Nat ⊕ α} {k : α → β} {P : Nat → Prop} {Q : β → Prop} (h : pok X P (fun a => Q (k a))) : pok (pbind X fun a => .inr (k a)) P Q := by
  cases X with
  | inl w => exact h
  | inr a => exact h
theorem pVal_N {w : Nat} (hE : cEv S G B n t N w) {v : Int × Nat} (h : pVal t i = .inr v) : v.2 ≤ N := by
  have z : ∀ k, kK t k ≠ 0 → k < N := fun k hk => Nat.lt_of_not_le (fun q => hk (hE.2.2.2.2.1 k q).1)
  unfold pVal at h
  split at h
  · rename_i c
    cases h
    exact z i (by omega)
  split at h
  · split at h
    · rename_i c
      cases h
      exact z (i + 1) (by omega)
    · cases h
  split at h
  · rename_i c
    cases h
    exact z i (by omega)
  · cases h
/-- the VALUES of a CHANGE -/
theorem k_110 (hok : tOk t) (hx : x < 1024) (hl : cs.length = x) (hp : p = pIdx L nm) : ∀ (d c fu i : Nat) (vs : List Int) (G : xG_), vs.length = c → c + d = 3 → d < fu → cCe S G B n t N q L i → cCs G L cs → (∀ k, k < vs.length → G 82 (4 * x + k) = vs.getD k 0) →
    pok (pCv t d vs i) (fun w => ∃ G', c32_110 r8 f fu 72 (x : Int) sg (sp : Int) p (c : Int) (S, G, m) = some (.inl 0, cWr S G' m (w : Int)) ∧ xFw G G')
      (fun r => ∃ G', c32_110 r8 f fu 72 (x : Int) sg (sp : Int) p (c : Int) (S, G, m) = r8 72 ((x + 1 : Nat) : Int) (S, G', m) ∧ xFw G G' ∧ i + 3 ≤ r.2 ∧ cCe S G' B n t N q L r.2 ∧ cCs G' L (cs ++ [(sg, nm, sp, r.1)])) := by
  intro d
  induction d with
  | zero =>
    intro c fu i vs G h1 h2 h3 h hC hv
    obtain ⟨fu, rfl⟩ : ∃ t, fu = t + 1 := ⟨fu - 1, by omega⟩
    have hs := h.1.1
    have e4 : xwr ((xwr (4 * (x : Int))) + (c : Int)) = ((4 * x + c : Nat) : Int) := by rw [xwr_g (4 * (x : Int)) (by omega) (by omega), xwr_g _ (by omega) (by omega)]; omega
    have ec : xwr ((c : Int) + 1) = ((c + 1 : Nat) : Int) := by rw [xwr_g _ (by omega) (by omega)]; omega
    have p1 := k_51 (f := f) (m := m) hok h.1 h.2.1
    have e0 : ∀ {Ri : (Nat ⊕ Int) × xT_}, c51 f 72 (S, G, m) = some Ri → c32_110 r8 f (fu + 1) 72 (x : Int) sg (sp : Int) p (c : Int) (S, G, m) = _ := fun e => st_110a (r8 := r8) (r110 := c32_110 r8 f fu) (x := x) (c := c) (sg := sg) (st := (sp : Int)) (p := p) hs h.1.2.1 e
    cases hv1 : pVal t i with
    | inl w =>
      rw [hv1] at p1
      obtain ⟨v, a1⟩ := p1
      have : pCv t 0 vs i = .inl w := by unfold pCv; rw [hv1]; rfl
      rw [this]
      exact ⟨_, by rw [e0 a1]; rfl, .a1⟩
    | inr v =>
      rw [hv1] at p1
      obtain ⟨a1, a2⟩ := p1
      have lv := (pVal_le hv1)
      have hN2 : v.2 ≤ N := pVal_N h.1 hv1
      rw [pCv_0 hv1 (.inl rfl)]
      have hs3 : c = 3 := by omega
      have z : ∀ a k, ¬ (a = 72 ∧ k = 1) → ¬ (a = 82 ∧ k = 4 * x + c) → xup2 (xup2 G 72 1 ((min v.2 N : Nat) : Int)) 82 (4 * x + c) v.1 a k = G a k := fun a k w1 w2 => by rw [xup2_n w2, xup2_n w1]
      have fr : xFw G (xup2 (xup2 G 72 1 ((min v.2 N : Nat) : Int)) 82 (4 * x + c) v.1) := fun a k w1 w2 => z a k (by omega) (by omega)
      have hA : cAt (xup2 (xup2 G 72 1 ((min v.2 N : Nat) : Int)) 82 (4 * x + c) v.1) N N v.2 := ⟨by rw [xup2_n (by omega)]; exact a2.1, a2.2⟩
      have h' := h.fr fr hA hN2
      have hC' := hC.fr (z _ _ (by omega) (by omega)) (fun a k _ _ => z _ _ (by omega) (by omega)) (fun k hk => z _ _ (by omega) (by omega))
      have hv' : ∀ k, k < (vs ++ [v.1]).length → xup2 (xup2 G 72 1 ((min v.2 N : Nat) : Int)) 82 (4 * x + c) v.1 82 (4 * x + k) = (vs ++ [v.1]).getD k 0 := fun k hk => by
        rw [len1] at hk
        rw [getD_1]
        by_cases ck : k = vs.length
        · rw [if_pos ck, ck, h1, xup2_s]
        · rw [if_neg ck, z _ _ (by omega) (by omega)]; exact hv k (by omega)
      have q := k_141 (f := f) (m := m) (r8 := r8) (sg := sg) (p := p) (sp := sp) hx h' hC' hl hv' (by rw [len1]; omega) (sg, nm, sp, vs ++ [v.1]) rfl hp
      have e1 := (e0 a1).trans ((st_110b (p := p) hs hx (by omega) e4 ec).1 hs3)
      rw [len1, h1] at q
      rw [e1]
      refine pbind_pk (k := fun j => (vs ++ [v.1], j)) ?_
      cases hn : (pbind (pNeed t 41 v.2) fun j => pNeed t 46 j) with
      | inl w =>
        rw [hn] at q
        obtain ⟨G3, q1, q2⟩ := q
        exact ⟨G3, q1, fr.tr q2⟩
      | inr j =>
        rw [hn] at q
        obtain ⟨G3, q1, q2, q3, q4, q5⟩ := q
        exact ⟨G3, q1, fr.tr q2, by show i + 3 ≤ j; omega, q4, q5⟩
  | succ d ih =>
    intro c fu i vs G h1 h2 h3 h hC hv
    obtain ⟨fu, rfl⟩ : ∃ t, fu = t + 1 := ⟨fu - 1, by omega⟩
    have hs := h.1.1
    have e4 : xwr ((xwr (4 * (x : Int))) + (c : Int)) = ((4 * x + c : Nat) : Int) := by rw [xwr_g (4 * (x : Int)) (by omega) (by omega), xwr_g _ (by omega) (by omega)]; omega
    have ec : xwr ((c : Int) + 1) = ((c + 1 : Nat) : Int) := by rw [xwr_g _ (by omega) (by omega)]; omega
    have p1 := k_51 (f := f) (m := m) hok h.1 h.2.1
    have e0 : ∀ {Ri : (Nat ⊕ Int) × xT_}, c51 f 72 (S, G, m) = some Ri → c32_110 r8 f (fu + 1) 72 (x : Int) sg (sp : Int) p (c : Int) (S, G, m) = _ := fun e => st_110a (r8 := r8) (r110 := c32_110 r8 f fu) (x := x) (c := c) (sg := sg) (st := (sp : Int)) (p := p) hs h.1.2.1 e
    cases hv1 : pVal t i with
    | inl w =>
      rw [hv1] at p1
      obtain ⟨v, a1⟩ := p1
      have : pCv t (d + 1) vs i = .inl w := by unfold pCv; rw [hv1]; rfl
      rw [this]
      exact ⟨_, by rw [e0 a1]; rfl, .a1⟩
    | inr v =>
      rw [hv1] at p1
      obtain ⟨a1, a2⟩ := p1
      have lv := (pVal_le hv1)
      have hN2 : v.2 ≤ N := pVal_N h.1 hv1
      have z : ∀ a k, ¬ (a = 72 ∧ k = 1) → ¬ (a = 82 ∧ k = 4 * x + c) → xup2 (xup2 G 72 1 ((min v.2 N : Nat) : Int)) 82 (4 * x + c) v.1 a k = G a k := fun a k w1 w2 => by rw [xup2_n w2, xup2_n w1]
      have fr : xFw G (xup2 (xup2 G 72 1 ((min v.2 N : Nat) : Int)) 82 (4 * x + c) v.1) := fun a k w1 w2 => z a k (by omega) (by omega)
      have hA : cAt (xup2 (xup2 G 72 1 ((min v.2 N : Nat) : Int)) 82 (4 * x + c) v.1) N N v.2 := ⟨by rw [xup2_n (by omega)]; exact a2.1, a2.2⟩
      have h' := h.fr fr hA hN2
      have hC' := hC.fr (z _ _ (by omega) (by omega)) (fun a k _ _ => z _ _ (by omega) (by omega)) (fun k hk => z _ _ (by omega) (by omega))
      have hv' : ∀ k, k < (vs ++ [v.1]).length → xup2 (xup2 G 72 1 ((min v.2 N : Nat) : Int)) 82 (4 * x + c) v.1 82 (4 * x + k) = (vs ++ [v.1]).getD k 0 := fun k hk => by
        rw [len1] at hk
        rw [getD_1]
        by_cases ck : k = vs.length
        · rw [if_pos ck, ck, h1, xup2_s]
        · rw [if_neg ck, z _ _ (by omega) (by omega)]; exact hv k (by omega)
      have p39 := k_39 (f := f) (m := m) h'.1 h'.2.1
      by_cases c44 : kK t v.2 = 44
      · rw [pCv_1 hv1 c44]
        obtain ⟨b1, b2⟩ := p39.1 c44
        have hlt := (h'.1.lt h'.2.1 (by omega)).1
        have e1 := (e0 a1).trans ((st_110b (p := p) hs hx (by omega) e4 ec).2 (by omega) b1)
        rw [if_neg (by show ¬ (1 : Int) = 0; decide)] at e1
        have h'' := h'.fr .a1 b2 (by omega)
        have hC'' := hC'.fr (G' := xup2 (xup2 (xup2 G 72 1 ((min v.2 N : Nat) : Int)) 82 (4 * x + c) v.1) 72 1 ((min (v.2 + 1) N : Nat) : Int)) (xup2_n (by omega)) (fun a k _ _ => xup2_n (by omega)) (fun k hk => xup2_n (by omega))
        have q := ih (c + 1) fu (v.2 + 1) (vs ++ [v.1]) _ (by rw [len1, h1]) (by omega) (by omega) h'' hC'' (fun k hk => by rw [xup2_n (by omega)]; exact hv' k hk)
        rw [e1]
        show pok (pCv t d (vs ++ [v.1]) (v.2 + 1)) _ _
        cases hn : pCv t d (vs ++ [v.1]) (v.2 + 1) with
        | inl w =>
          rw [hn] at q
          obtain ⟨G3, q1, q2⟩ := q
          exact ⟨G3, q1, (fr.tr .a1).tr q2⟩
        | inr r =>
          rw [hn] at q
          obtain ⟨G3, q1, q2, q3, q4, q5⟩ := q
          exact ⟨G3, q1, (fr.tr .a1).tr q2, by omega, q4, q5⟩
      · rw [pCv_0 hv1 (.inr c44)]
        have e1 := (e0 a1).trans ((st_110b (p := p) hs hx (by omega) e4 ec).2 (by omega) (p39.2 c44))
        rw [if_pos rfl] at e1
        have q := k_141 (f := f) (m := m) (r8 := r8) (sg := sg) (p := p) (sp := sp) hx h' hC' hl hv' (by rw [len1]; omega) (sg, nm, sp, vs ++ [v.1]) rfl hp
        rw [len1, h1] at q
        rw [e1]
        refine pbind_pk (k := fun j => (vs ++ [v.1], j)) ?_
        cases hn : (pbind (pNeed t 41 v.2) fun j => pNeed t 46 j) with
        | inl w =>
          rw [hn] at q
          obtain ⟨G3, q1, q2⟩ := q
          exact ⟨G3, q1, fr.tr q2⟩
        | inr j =>
          rw [hn] at q
          obtain ⟨G3, q1, q2, q3, q4, q5⟩ := q
          exact ⟨G3, q1, fr.tr q2, by show i + 3 ≤ j; omega, q4, q5⟩
end
