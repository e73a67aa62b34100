/-! THE CLASS: orderRings(), one turn -/
section
variable {f q np tn : Nat} {S : Nat → Nat × Nat × Nat} {m : Nat × Nat} {T D : Nat → Nat} {r4 : Nat → Int → Int → xT_ → Option (xT_)}
theorem k_25i (hf : 30 < f) (hq : 82 < q) (hn : np ≤ 16) (qs : cPgS S q) (hD : b16 D) (hDn : ∀ p, p < np → ∀ y, (D p).testBit y = true → y < np) : ∀ (d p fu dn : Nat) (G : xG_) (O : List Nat), p + d = np → d < fu → cPgP G q → G q 1 = (np : Int) → (∀ x, x < np → G (q + 8) x = ((qRing T x : Nat) : Int)) → cRd G q D → isOr T D np dn O → cOr G q O → ∃ G' dn' O', c25_14 r4 f fu q (dn : Int) (tn : Int) (p : Int) (S, G, m) = r4 q ((dn' : Nat) : Int) (xwr ((tn : Int) + 1)) (S, G', m) ∧ (∀ a j, a ≠ q + 9 → ¬ (a = q ∧ j = 12) → G' a j = G a j) ∧ isOr T D np dn' O' ∧ cOr G' q O' ∧ qSub dn dn' ∧ O.length ≤ O'.length ∧ (∀ g, g ∈ O → g ∈ O') ∧ ∀ x, p ≤ x → x < np → qRing T x = x → rdyO T D np dn x → x ∈ O' := by
  intro d
  induction d with
  | zero =>
    intro p fu dn G O e1 e2 hG h1 hR hC hO hc
    obtain ⟨fu, rfl⟩ : ∃ t, fu = t + 1 := ⟨fu - 1, by omega⟩
    have : p = np := by omega
    rw [this]
    exact ⟨G, dn, O, st_25a (r14 := c25_14 r4 f fu) qs.1 h1, fun _ _ _ _ => rfl, hO, hc, qSub_r _, Nat.le_refl _, fun _ h => h, fun x z1 z2 => by omega⟩
  | succ d ih =>
    intro p fu dn G O e1 e2 hG h1 hR hC hO hc
    obtain ⟨fu, rfl⟩ : ∃ t, fu = t + 1 := ⟨fu - 1, by omega⟩
    have hp : p < np := by omega
    have ek : xwr ((p : Int) + 1) = ((p + 1 : Nat) : Int) := by rw [xwr_g _ (by omega) (by omega)]; omega
    have hdn := hO.1
    have hbit := xbit0 (a := dn) (m := p) (by omega) (by omega)
    have hx := hR p hp
    have q8 := qs.2.2.2.2.2.2.2.2.1
    have w10 := hG.2.2.2.2.2.2.2.1
    -- nothing is placed here
    have skip : c25_14 r4 f (fu + 1) q (dn : Int) (tn : Int) (p : Int) (S, G, m) = c25_14 r4 f fu q (dn : Int) (tn : Int) (xwr ((p : Int) + 1)) (S, G, m) → (qRing T p = p → rdyO T D np dn p → p ∈ O) → ∃ G' dn' O', c25_14 r4 f (fu + 1) q (dn : Int) (tn : Int) (p : Int) (S, G, m) = r4 q ((dn' : Nat) : Int) (xwr ((tn : Int) + 1)) (S, G', m) ∧ (∀ a j, a ≠ q + 9 → ¬ (a = q ∧ j = 12) → G' a j = G a j) ∧ isOr T D np dn' O' ∧ cOr G' q O' ∧ qSub dn dn' ∧ O.length ≤ O'.length ∧ (∀ g, g ∈ O → g ∈ O') ∧ ∀ x, p ≤ x → x < np → qRing T x = x → rdyO T D np dn x → x ∈ O' := by
      intro st hp0
      obtain ⟨G', dn', O', x1, x2, x3, x4, x5, x6, x7, x8⟩ := ih (p + 1) fu dn G O (by omega) (by omega) hG h1 hR hC hO hc
      refine ⟨G', dn', O', by rw [st, ek]; exact x1, x2, x3, x4, x5, x6, x7, fun x z1 z2 z3 z4 => ?_⟩
      by_cases cx : x = p
      · rw [cx] at z3 z4 ⊢
        exact x7 p (hp0 z3 z4)
      · exact x8 x (by omega) z2 z3 z4
    by_cases c1 : qRing T p = p
    · by_cases c2 : dn.testBit p = true
      · exact skip (st_25b (r14 := c25_14 r4 f fu) hq hp hn qs.1 q8 w10 h1 hx (.inr (fun y => by rw [hbit.mp y] at c2; cases c2))) (fun _ _ => by
          have := ((hO.2.1 p).mp c2).2
          rw [c1] at this
          exact this)
      · have c2' : dn.testBit p = false := by cases hb : dn.testBit p with
          | true => exact absurd hb c2
          | false => rfl
        obtain ⟨w, w1, w2, w3⟩ := k_27 (f := f) (m := m) (g := p) hf hq hn qs hG h1 hR hD hC
        rw [c1] at hx
        have hsub := xsub (a := w) (b := dn) (by omega) (by omega)
        by_cases c3 : xand (w : Int) (xxor (dn : Int) (-1)) = 0
        · -- it is placed
          have hrdy : rdyO T D np dn p := fun x hx' hxp y hy => by
            by_cases cy : qRing T y = p
            · exact .inr cy
            · refine .inl (hsub.mp c3 y ((w3 y).mpr ⟨(qMr_t T D p y np).mpr ⟨x, hx', hxp, hy⟩, ?_⟩))
              cases hb : (qMb T p np).testBit y with
              | false => rfl
              | true => exact absurd ((qMb_t T p y np).mp hb).2 cy
          have hO' := hO.add hn hp c1 c2' hrdy
          have hlen := hO.len
          have hlen' := hO'.len
          rw [len1] at hlen'
          have er : xwr ((O.length : Int) + 1) = ((O.length + 1 : Nat) : Int) := by rw [xwr_g _ (by omega) (by omega)]; omega
          obtain ⟨G1, hG1⟩ : ∃ G1, G1 = xup2 (xup2 G (q + 9) O.length (p : Int)) q 12 ((O.length + 1 : Nat) : Int) := ⟨_, rfl⟩
          have z1 : ∀ a j, a ≠ q + 9 → ¬ (a = q ∧ j = 12) → G1 a j = G a j := fun a j y1 y2 => by rw [hG1, xup2_n y2, xup2_n (fun y => y1 y.1)]
          have hGp : cPgP G1 q := hG.ge (fun j _ _ y3 => z1 q j (by omega) (fun y => y3 y.2))
          have h11 : G1 q 1 = (np : Int) := by rw [z1 q 1 (by omega) (by omega)]; exact h1
          have hR1 : ∀ x, x < np → G1 (q + 8) x = ((qRing T x : Nat) : Int) := fun x hx' => by rw [z1 _ _ (by omega) (by omega)]; exact hR x hx'
          have hC1 : cRd G1 q D := fun x hx' => by rw [z1 _ _ (by omega) (by omega)]; exact hC x hx'
          have e26 := k_26 (f := f) (m := m) (g := p) hf hq hn qs hGp h11 hR1
          have hc1 : cOr G1 q (O ++ [p]) := by
            refine ⟨by rw [hG1, xup2_s, len1], fun k hk => ?_⟩
            rw [len1] at hk
            rw [hG1, xup2_n (by omega), getD_1]
            by_cases ck : k = O.length
            · rw [if_pos ck, ck, xup2_s]
            · rw [if_neg ck, xup2_n (fun y => ck y.2)]; exact hc.2 k (by omega)
          have st : c25_14 r4 f (fu + 1) q (dn : Int) (tn : Int) (p : Int) (S, G, m) = _ := st_25d (r14 := c25_14 r4 f fu) hq hp hn (by omega) qs.1 q8 qs.2.2.2.2.2.2.2.2.2.1 w10 hG.2.2.2.2.2.2.2.2.1 h1 hc.1 hx (hbit.mpr c2') w2 c3 er (by rw [← hG1]; exact e26)
          rw [← hG1, xor_nat (by omega) (by have := qMb_16 T p np hn; omega), ek] at st
          obtain ⟨G', dn', O', x1, x2, x3, x4, x5, x6, x7, x8⟩ := ih (p + 1) fu (dn ||| qMb T p np) G1 (O ++ [p]) (by omega) (by omega) hGp h11 hR1 hC1 hO' hc1
          rw [len1] at x6
          refine ⟨G', dn', O', st.trans x1, fun a j y1 y2 => by rw [x2 a j y1 y2, z1 a j y1 y2], x3, x4, qSub_tr (sub_or_l _ _) x5, by omega, fun g hg => x7 g (List.mem_append_left _ hg), fun x y1 y2 y3 y4 => ?_⟩
          by_cases cx : x = p
          · rw [cx]; exact x7 p (List.mem_append_right _ (List.mem_singleton.mpr rfl))
          · exact x8 x (by omega) y2 y3 (y4.mo (sub_or_l _ _))
        · exact skip (st_25c (r14 := c25_14 r4 f fu) hq hp hn qs.1 q8 w10 h1 hx (hbit.mpr c2') w2 c3) (fun _ hr => absurd (hsub.mpr (fun y hy => by
            obtain ⟨a1, a2⟩ := (w3 y).mp hy
            obtain ⟨x, b1, b2, b3⟩ := (qMr_t T D p y np).mp a1
            rcases hr x b1 b2 y b3 with z | z
            · exact z
            · rw [(qMb_t T p y np).mpr ⟨hDn x b1 y b3, z⟩] at a2
              cases a2)) c3)
    · exact skip (st_25b (r14 := c25_14 r4 f fu) hq hp hn qs.1 q8 w10 h1 hx (.inl c1)) (fun h _ => absurd h c1)
end
