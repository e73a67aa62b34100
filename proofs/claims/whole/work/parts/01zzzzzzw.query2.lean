/-! query() of the reference: the FAULTS of a QUERY, its answers, what is kept -/
/-- what is kept of the answers: how many VARIABLES, the answers -/
def rKp (G : xG_) (kp : Nat × List (List Int)) : Prop := G 0 105 = (kp.2.length : Int) ∧ G 0 106 = (kp.1 : Int) ∧ kp.1 ≤ 8 ∧ kp.2.length ≤ 500 ∧ ∀ i, i < kp.2.length → (kp.2.getD i []).length = kp.1 ∧ ∀ k, k < kp.1 → G 275 (8 * i + k) = (kp.2.getD i []).getD k 0
theorem rKp.ge {G G' : xG_} {kp : Nat × List (List Int)} (h : rKp G kp) (h0 : ∀ j, 105 ≤ j → j ≤ 106 → G' 0 j = G 0 j) (h1 : ∀ j, G' 275 j = G 275 j) : rKp G' kp := ⟨by rw [h0 _ (by omega) (by omega)]; exact h.1, by rw [h0 _ (by omega) (by omega)]; exact h.2.1, h.2.2.1, h.2.2.2.1, fun i hi => ⟨(h.2.2.2.2 i hi).1, fun k hk => by rw [h1]; exact (h.2.2.2.2 i hi).2 k hk⟩⟩
/-- FAULTS 2 and 3 of what a QUERY mentions -/
def qFm (s : pPg) (Q : List pMn) (k a : Int) : Prop := (k = 2 ∧ ∃ m ∈ Q, m.1 = -1 ∧ a = (m.2.1 : Int)) ∨ (k = 3 ∧ ∃ m ∈ Q, m.1 ≠ -1 ∧ pNn s.2.2.2.1 m.1 ≠ m.2.2.1 ∧ a = (m.2.1 : Int))
/-- the answer, the place, what is kept behind a QUERY -/
def stQu (s : pPg) (M : Nat → List pRw) (kp : Nat × List (List Int)) (t : List Int) (v pl : Int) (kp' : Nat × List (List Int)) : Prop := pok (qQu t s.1)
  (fun w => v = xwr (-1 - (w : Int)) ∧ pl = -1 ∧ kp' = kp)
  (fun r => (∃ k, v = xwr (-5000 - k) ∧ kp' = kp ∧ qQf s r k pl ∧ ∀ k' a', qQf s r k' a' → k < k' ∨ k = k' ∧ pl ≤ a') ∨
    (∀ k a, ¬ qQf s r k a) ∧ pl = -1 ∧ ((v = -6000 ∧ kp' = kp ∧ ∃ V : List (List Int), V.Nodup ∧ 500 < V.length ∧ ∀ x ∈ V, isW r.2.2.1 r.2.1.length M (fun _ _ => True) x) ∨
      ∃ S : List (List Int), S.length ≤ 500 ∧ S.Pairwise vLe ∧ isAll r.2.2.1 r.2.1.length M (fun _ _ => True) S ∧ v = (S.length : Int) ∧ kp' = if S.length = 0 then kp else (r.2.1.length, S)))
def xQa (G G' : xG_) : Prop := ∀ a j, ¬ (a = 0 ∧ (26 ≤ j ∧ j ≤ 27 ∨ 37 ≤ j ∧ j ≤ 40 ∨ 42 ≤ j ∧ j ≤ 61 ∨ j = 75 ∨ 105 ≤ j ∧ j ≤ 106)) → ¬ (110 ≤ a ∧ a ≤ 121 ∧ a ≠ 118) → a ≠ 275 → G' a j = G a j
section
variable {f q : Nat} {s : pPg} {r : pRs} {R : Nat → List pRw}
/-- the rest of asked() behind its first loop -/
def g369e (f : Nat) (G : xG_) : Option (Int × xG_) := ((g258 f 2 24 G).bind fun R109 => (if (R109 0 26) = 0 then ((some (xup2 R109 0 39 24)).bind fun G118 => ((some (xup2 G118 0 38 3)).bind fun G122 => ((some (xup2 G122 0 40 (-1))).bind fun G126 => ((some (xup2 G126 0 37 0)).bind fun G130 => ((some (xup2 G130 0 43 0)).bind fun G134 => ((some (xup2 G134 0 52 0)).bind fun G138 => (if 0 ≤ (24 : Int) ∧ (24 : Int) < 25 then ((some (xup2 G138 0 53 (G138 (2 + 20) (24 : Int).toNat))).bind fun G143 => ((g275 f 0 G143).bind fun R144 => (if (R144 0 43) = 0 then (if ¬ (R144 0 52) = 0 then ((some (xup2 R144 0 105 (R144 0 52))).bind fun G154 => ((some (xup2 G154 0 106 (G154 0 53))).bind fun G158 => g369_209 f f 0 G158)) else (some (0, R144))) else (some (-6000, R144))))) else none))))))) else ((g362 f (R109 0 26) (R109 0 27) R109).bind fun R159 => (some (R159.1, R159.2)))))
theorem l_369_209 {n : Nat} (hn : n ≤ 500) : ∀ (d x fu : Nat) (G : xG_), x + d = 8 * n → d < fu → G 0 52 = (n : Int) →
    ∃ G', g369_209 f fu (x : Int) G = some ((n : Int), G') ∧ (∀ z, x ≤ z → z < 8 * n → G' 275 z = G 116 z) ∧ ∀ a j, ¬ (a = 275 ∧ x ≤ j) → G' a j = G a j := by
  intro d
  induction d with
  | zero =>
    intro x fu G h1 h2 h52
    obtain ⟨fu, rfl⟩ : ∃ t, fu = t + 1 := ⟨fu - 1, by omega⟩
    refine ⟨G, ?_, fun z _ _ => by omega, fun _ _ _ => rfl⟩
    show g369_209b (g369_209 f fu) f _ _ = _
    unfold g369_209b
    rw [h52, xwr_g _ (by omega) (by omega), if_pos (by omega)]
  | succ d ih =>
    intro x fu G h1 h2 h52
    obtain ⟨fu, rfl⟩ : ∃ t, fu = t + 1 := ⟨fu - 1, by omega⟩
    have ek : xwr ((x : Int) + 1) = ((x + 1 : Nat) : Int) := by rw [xwr_g _ (by omega) (by omega)]; omega
    obtain ⟨G', u1, u2, u3⟩ := ih (x + 1) fu (xup2 G 275 x (G 116 x)) (by omega) (by omega) (by rw [xup2_n (by omega)]; exact h52)
    refine ⟨G', ?_, fun z z1 z2 => ?_, fun a j q => by rw [u3 a j (by omega), xup2_n (by omega)]⟩
    · show g369_209b (g369_209 f fu) f _ _ = _
      unfold g369_209b
      rw [h52, xwr_g _ (by omega) (by omega), if_neg (by omega), if_pos (by omega), if_pos (by omega), Int.toNat_natCast, Option.bind_some, ek]
      exact u1
    · by_cases c : z = x
      · rw [c, u3 _ _ (by omega), xup2_s]
      · rw [u2 z (by omega) z2, xup2_n (by omega)]
theorem rF.cg {G : xG_} {S S' : Int → Int → Prop} (h : rF G S) (he : ∀ k a, S k a ↔ S' k a) : rF G S' := by
  have : S = S' := funext (fun k => funext (fun a => propext (he k a)))
  rw [← this]; exact h
theorem l_369_7 (h376 : s.2.2.2.1.length ≤ 376) (h8 : r.2.2.2.1.length ≤ 8) (hw : ∀ m ∈ r.2.2.2.1, -1 ≤ m.1 ∧ m.1 < s.1.length) (h16 : s.1.length ≤ 16) : ∀ (d y fu : Nat) (G : xG_) (S : Int → Int → Prop), y + d = r.2.2.2.1.length → d < fu → rMs G 2 0 (mSh q s.2.2.2.1 ++ r.2.2.2.1) → rPn G 2 s → rF G S →
    ∃ G', g369_7 f fu ((s.2.2.2.1.length + y : Nat) : Int) G = g369e f G' ∧ xf26 G G' ∧ rF G' (fun k a => S k a ∨ qFm s (r.2.2.2.1.drop y) k a) := by
  have hl : (mSh q s.2.2.2.1 ++ r.2.2.2.1).length = s.2.2.2.1.length + r.2.2.2.1.length := by rw [List.length_append, mSh_l]
  intro d
  induction d with
  | zero =>
    intro y fu G S h1 h2 hM hP hF
    obtain ⟨fu, rfl⟩ : ∃ t, fu = t + 1 := ⟨fu - 1, by omega⟩
    refine ⟨G, ?_, fun _ _ _ => rfl, hF.cg (fun k a => ?_)⟩
    · show g369_7b (g369_7 f fu) f _ _ = _
      unfold g369_7b
      rw [hM.1, hl, if_pos (by omega)]
      rfl
    · rw [List.drop_eq_nil_of_le (by omega)]
      unfold qFm
      refine ⟨fun h => .inl h, fun h => ?_⟩
      rcases h with h | ⟨_, m, hm, _⟩ | ⟨_, m, hm, _⟩
      · exact h
      · cases hm
      · cases hm
  | succ d ih =>
    intro y fu G S h1 h2 hM hP hF
    obtain ⟨fu, rfl⟩ : ∃ t, fu = t + 1 := ⟨fu - 1, by omega⟩
    have hy : y < r.2.2.2.1.length := by omega
    obtain ⟨a1, a2, a3, a4⟩ := hM.2 (s.2.2.2.1.length + y) (by rw [hl]; omega)
    have eg : (mSh q s.2.2.2.1 ++ r.2.2.2.1).getD (s.2.2.2.1.length + y) (0, 0, 0, 0) = r.2.2.2.1[y] := by
      rw [List.getD_eq_getElem?_getD, List.getElem?_append_right (by rw [mSh_l]; omega), mSh_l, Nat.add_sub_cancel_left, List.getElem?_eq_getElem hy]
      rfl
    rw [eg] at a1 a2 a3 a4
    have hm := hw _ (List.getElem_mem hy)
    have ek : xwr (((s.2.2.2.1.length + y : Nat) : Int) + 1) = ((s.2.2.2.1.length + (y + 1) : Nat) : Int) := by rw [xwr_g _ (by omega) (by omega)]; omega
    have ed : r.2.2.2.1.drop y = r.2.2.2.1[y] :: r.2.2.2.1.drop (y + 1) := List.drop_eq_getElem_cons hy
    have mM : ∀ {G1 : xG_}, xf26 G G1 → rMs G1 2 0 (mSh q s.2.2.2.1 ++ r.2.2.2.1) := fun {G1} hx => hM.fr (hx _ _ (by omega)) (fun a j _ _ => hx _ _ (by omega))
    have mP : ∀ {G1 : xG_}, xf26 G G1 → rPn G1 2 s := fun {G1} hx y hy => by rw [hx _ _ (by omega)]; exact hP y hy
    have step : ∀ {G1 : xG_} {S1 : Int → Int → Prop}, xf26 G G1 → rF G1 S1 → g369_7 f (fu + 1) ((s.2.2.2.1.length + y : Nat) : Int) G = g369_7 f fu ((s.2.2.2.1.length + (y + 1) : Nat) : Int) G1 → (∀ k a, S1 k a ∨ qFm s (r.2.2.2.1.drop (y + 1)) k a ↔ S k a ∨ qFm s (r.2.2.2.1.drop y) k a) → ∃ G', g369_7 f (fu + 1) ((s.2.2.2.1.length + y : Nat) : Int) G = g369e f G' ∧ xf26 G G' ∧ rF G' (fun k a => S k a ∨ qFm s (r.2.2.2.1.drop y) k a) := fun {G1 S1} hx hF1 he hs => by
      obtain ⟨G', u1, u2, u3⟩ := ih (y + 1) fu G1 S1 (by omega) (by omega) (mM hx) (mP hx) hF1
      exact ⟨G', he.trans u1, fun a j hj => (u2 a j hj).trans (hx a j hj), u3.cg hs⟩
    have e2 : ((0 : Nat) : Int) + (r.2.2.2.1[y].2.1 : Int) = (r.2.2.2.1[y].2.1 : Int) := by omega
    rw [e2] at a2
    by_cases c1 : r.2.2.2.1[y].1 = -1
    · obtain ⟨G1, k1, k2, k3⟩ := l_faulty (f := f) (k := 2) (a := (r.2.2.2.1[y].2.1 : Int)) (by decide) hF
      refine step k3 k2 ?_ ?_
      · show g369_7b (g369_7 f fu) f _ _ = _
        unfold g369_7b g369_85
        rw [hM.1, hl, if_neg (by omega), if_pos (by omega), Int.toNat_natCast, a1, if_neg (fun q => q c1), a2, k1, Option.bind_some, ek]
        rw [if_pos (by omega)]
      · intro k a
        rw [ed]
        unfold qFm
        constructor
        · rintro ((h | ⟨h, h'⟩) | ⟨h, m, hm, h'⟩ | ⟨h, m, hm, h'⟩)
          · exact .inl h
          · exact .inr (.inl ⟨h, _, List.mem_cons_self .., c1, h'⟩)
          · exact .inr (.inl ⟨h, m, List.mem_cons_of_mem _ hm, h'⟩)
          · exact .inr (.inr ⟨h, m, List.mem_cons_of_mem _ hm, h'⟩)
        · rintro (h | ⟨h, m, hm, h'⟩ | ⟨h, m, hm, h'⟩)
          · exact .inl (.inl h)
          · rcases List.mem_cons.mp hm with e | e
            · subst e; exact .inl (.inr ⟨h, h'.2⟩)
            · exact .inr (.inl ⟨h, m, e, h'⟩)
          · rcases List.mem_cons.mp hm with e | e
            · subst e; exact absurd c1 h'.1
            · exact .inr (.inr ⟨h, m, e, h'⟩)
    · have h0 : 0 ≤ r.2.2.2.1[y].1 := by omega
      obtain ⟨p, hp⟩ : ∃ p : Nat, r.2.2.2.1[y].1 = (p : Int) := ⟨r.2.2.2.1[y].1.toNat, by omega⟩
      have hpl : p < s.1.length := by omega
      have hnn := hP p hpl
      by_cases c2 : pNn s.2.2.2.1 (p : Int) = r.2.2.2.1[y].2.2.1
      · refine step (fun _ _ _ => rfl) hF ?_ ?_
        · show g369_7b (g369_7 f fu) f _ _ = _
          unfold g369_7b g369_85
          rw [hM.1, hl, if_neg (by omega), if_pos (by omega), Int.toNat_natCast, a1, if_pos c1, hp, if_pos (by omega), if_pos (by omega), Int.toNat_natCast, hnn, a3, if_pos c2, ek]
        · intro k a
          rw [ed]
          unfold qFm
          constructor
          · rintro (h | ⟨h, m, hm, h'⟩ | ⟨h, m, hm, h'⟩)
            · exact .inl h
            · exact .inr (.inl ⟨h, m, List.mem_cons_of_mem _ hm, h'⟩)
            · exact .inr (.inr ⟨h, m, List.mem_cons_of_mem _ hm, h'⟩)
          · rintro (h | ⟨h, m, hm, h'⟩ | ⟨h, m, hm, h'⟩)
            · exact .inl h
            · rcases List.mem_cons.mp hm with e | e
              · subst e; exact absurd h'.1 c1
              · exact .inr (.inl ⟨h, m, e, h'⟩)
            · rcases List.mem_cons.mp hm with e | e
              · subst e; exact absurd (by rw [hp]; exact c2) h'.2.1
              · exact .inr (.inr ⟨h, m, e, h'⟩)
      · obtain ⟨G1, k1, k2, k3⟩ := l_faulty (f := f) (k := 3) (a := (r.2.2.2.1[y].2.1 : Int)) (by decide) hF
        refine step k3 k2 ?_ ?_
        · show g369_7b (g369_7 f fu) f _ _ = _
          unfold g369_7b g369_85
          rw [hM.1, hl, if_neg (by omega), if_pos (by omega), Int.toNat_natCast, a1, if_pos c1, hp, if_pos (by omega), if_pos (by omega), Int.toNat_natCast, hnn, a3, if_neg c2, if_pos (by omega), a2, k1, Option.bind_some, ek]
        · intro k a
          rw [ed]
          unfold qFm
          constructor
          · rintro ((h | ⟨h, h'⟩) | ⟨h, m, hm, h'⟩ | ⟨h, m, hm, h'⟩)
            · exact .inl h
            · exact .inr (.inr ⟨h, _, List.mem_cons_self .., c1, by rw [hp]; exact c2, h'⟩)
            · exact .inr (.inl ⟨h, m, List.mem_cons_of_mem _ hm, h'⟩)
            · exact .inr (.inr ⟨h, m, List.mem_cons_of_mem _ hm, h'⟩)
          · rintro (h | ⟨h, m, hm, h'⟩ | ⟨h, m, hm, h'⟩)
            · exact .inl (.inl h)
            · rcases List.mem_cons.mp hm with e | e
              · subst e; exact absurd h'.1 c1
              · exact .inr (.inl ⟨h, m, e, h'⟩)
            · rcases List.mem_cons.mp hm with e | e
              · subst e; exact .inl (.inr ⟨h, h'.2.2⟩)
              · exact .inr (.inr ⟨h, m, e, h'⟩)
end
