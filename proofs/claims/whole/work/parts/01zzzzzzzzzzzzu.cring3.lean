/-! THE CLASS: workRing(), all rules at a level -/
/-- the rows of a level that came already -/
def cLw (S : Nat → Nat × Nat × Nat) (G : xG_) (s : pPg) (rg : Nat) (R F : Nat → List pRw) : Prop := (∀ p, p < s.1.length → qK s p = rg → cRw S G (111 + 6 * p) (qN s p) 100 (F p) ∧ (F p).Pairwise rwLt ∧ (∀ r ∈ F p, r.2 = 0) ∧ (R p).length + (F p).length ≤ 100) ∧ (∀ p, p < s.1.length → qK s p ≠ rg → F p = []) ∧ G 93 15 = (qTo F s.1.length : Int)
def xFl (s : pPg) (rg : Nat) (G G' : xG_) : Prop := ∀ b j, ¬ (83 ≤ b ∧ b ≤ 92) → ¬ (99 ≤ b ∧ b ≤ 105) → ¬ (b = 93 ∧ j = 15) → (∀ p, p < s.1.length → qK s p = rg → ¬ (111 + 6 * p ≤ b ∧ b ≤ 113 + 6 * p)) → G' b j = G b j
theorem qTo_up {F : Nat → List pRw} {F1 : List pRw} {p : Nat} (hl : (F p).length ≤ F1.length) : ∀ (np : Nat), p < np → qTo (fun k => if k = p then F1 else F k) np = qTo F np + (F1.length - (F p).length)
  | 0, h => by omega
  | np + 1, h => by
    show qTo _ np + (if np = p then F1 else F np).length = qTo F np + (F np).length + _
    by_cases c : np = p
    · rw [if_pos c]
      subst c
      have e : ∀ k, k ≤ np → qTo (fun k => if k = np then F1 else F k) k = qTo F k := by
        intro k
        induction k with
        | zero => intro _; rfl
        | succ k ih =>
          intro hk
          show qTo _ k + (if k = np then F1 else F k).length = qTo F k + (F k).length
          rw [ih (by omega), if_neg (by omega)]
      rw [e np (Nat.le_refl _)]
      omega
    · rw [if_neg c, qTo_up hl np (by omega)]
      omega
theorem qTo_0 {F : Nat → List pRw} : ∀ (np : Nat), qTo F np = 0 ↔ ∀ p, p < np → F p = []
  | 0 => ⟨fun _ p hp => by omega, fun _ => rfl⟩
  | np + 1 => by
    show qTo F np + (F np).length = 0 ↔ _
    constructor
    · intro h p hp
      by_cases c : p = np
      · rw [c]; exact List.length_eq_zero_iff.mp (by omega)
      · exact (qTo_0 np).mp (by omega) p (by omega)
    · intro h
      rw [(qTo_0 np).mpr (fun p hp => h p (by omega)), h np (by omega)]
      rfl
section
variable {f q nx r n rg mb p u np w : Nat} {S : Nat → Nat × Nat × Nat} {G : xG_} {m : Nat × Nat} {s : pPg} {xp cp : Nat → Nat} {R R0 : Nat → List pRw} {v lv x : Int} {r66 : Nat → Int → Int → Int → xT_ → Option (Int × xT_)} {r89 : Nat → Int → Int → Int → Int → xT_ → Option (Int × xT_)}
theorem st_89e (hs : cSs S) (h1 : G 93 1 = (q : Int)) (qs : S q = (1, 3, 14)) (h8 : G q 8 = (r : Int)) : c149_89b r66 r89 f 93 (rg : Int) x lv (r : Int) (S, G, m) = (c154 f 93 (rg : Int) lv (S, G, m)).bind (fun T => r66 93 (rg : Int) x (xwr (lv + 1)) T) := by
  unfold c149_89b
  simp (disch := omega) only [cq_gi, cq_gr, cq_a, cq_s, cq_p, cq_pr, cq_is, cq_ar, cq_ab, cq_ln, xq_nz, Option.bind_some, xup2_n, xup2_s, Int.toNat_natCast, Int.reduceToNat, if_pos, if_neg, true_and, and_true, and_self, eq_self, if_true, reduceIte, not_true_eq_false, not_false_eq_true, or_true, true_or, s93 hs, h1, qs, h8]
theorem st_89n (hs : cSs S) (h1 : G 93 1 = (q : Int)) (qs : S q = (1, 3, 14)) (q7 : S (q + 7) = (2, 11, 24)) (q8 : S (q + 8) = (2, 3, 16)) (h8 : G q 8 = (np : Int)) (hr : r < np) (hn : np ≤ 24) (h9 : G q 9 = ((q + 7 : Nat) : Int)) (h10 : G q 10 = ((q + 8 : Nat) : Int)) (h7 : G (q + 7) r = (u : Int)) (us : S u = (1, 6, 20)) (hu : G u 0 = (p : Int)) (hp : p < 16) (hk : G (q + 8) p = (w : Int)) (hne : w ≠ rg) : c149_89b r66 r89 f 93 (rg : Int) x lv (r : Int) (S, G, m) = c149_148 r66 r89 f f 93 (rg : Int) x lv (r : Int) u 0 0 (S, G, m) := by
  have hne' : ¬ (w : Int) = (rg : Int) := by omega
  unfold c149_89b c149_143
  simp (disch := omega) only [cq_gi, cq_gr, cq_a, cq_s, cq_p, cq_pr, cq_is, cq_ar, cq_ab, cq_ln, xq_nz, Option.bind_some, xup2_n, xup2_s, Int.toNat_natCast, Int.reduceToNat, if_pos, if_neg, true_and, and_true, and_self, eq_self, if_true, reduceIte, not_true_eq_false, not_false_eq_true, or_true, true_or, s93 hs, h1, qs, h8, q7, q8, h9, h10, h7, us, hu, hk, hne']
theorem st_89y (hs : cSs S) (h1 : G 93 1 = (q : Int)) (qs : S q = (1, 3, 14)) (q7 : S (q + 7) = (2, 11, 24)) (q8 : S (q + 8) = (2, 3, 16)) (h8 : G q 8 = (np : Int)) (hr : r < np) (hn : np ≤ 24) (h9 : G q 9 = ((q + 7 : Nat) : Int)) (h10 : G q 10 = ((q + 8 : Nat) : Int)) (h7 : G (q + 7) r = (u : Int)) (us : S u = (1, 6, 20)) (hu : G u 0 = (p : Int)) (hp : p < 16) (hk : G (q + 8) p = (rg : Int)) (e : c151 f 93 u x lv (S, G, m) = some (v, (S, G, m))) : c149_89b r66 r89 f 93 (rg : Int) x lv (r : Int) (S, G, m) = c149_148 r66 r89 f f 93 (rg : Int) x lv (r : Int) u v 0 (S, G, m) := by
  unfold c149_89b c149_143
  simp (disch := omega) only [cq_gi, cq_gr, cq_a, cq_s, cq_p, cq_pr, cq_is, cq_ar, cq_ab, cq_ln, xq_nz, Option.bind_some, xup2_n, xup2_s, Int.toNat_natCast, Int.reduceToNat, if_pos, if_neg, true_and, and_true, and_self, eq_self, if_true, reduceIte, not_true_eq_false, not_false_eq_true, or_true, true_or, s93 hs, h1, qs, h8, q7, q8, h9, h10, h7, us, hu, hk, e]
theorem stD_s {st : Int} {xs : List Int} (hr : r < s.2.2.2.2.1.length) : stD s rg st R (r + 1) p xs ↔ stD s rg st R r p xs ∨ ((s.2.2.2.2.1.getD r dRu).1 = (p : Int) ∧ qK s p = rg ∧ (qG (s.2.2.2.2.1.getD r dRu) ≠ 0 → st = 1) ∧ rlD (s.2.2.2.2.1.getD r dRu) R xs ∧ rNw R p xs) := by
  constructor
  · rintro ⟨k, k1, k2, k3⟩
    by_cases c : k = r
    · subst c; exact .inr k3
    · exact .inl ⟨k, by omega, k2, k3⟩
  · rintro (⟨k, k1, k2, k3⟩ | k3)
    · exact ⟨k, by omega, k2, k3⟩
    · exact ⟨r, by omega, hr, k3⟩
theorem stD_m {st : Int} {xs : List Int} {r' : Nat} (h : stD s rg st R r p xs) (hr : r ≤ r') : stD s rg st R r' p xs := by
  obtain ⟨k, k1, k2⟩ := h
  exact ⟨k, by omega, k2⟩
theorem fCt_map (W : List (List Int)) : fCt (W.map (fun xs => (p, xs))) p = W.length := by
  unfold fCt
  rw [List.countP_map]
  exact List.countP_eq_length.mpr (fun a _ => decide_eq_true rfl)
theorem cLw.fx {F : Nat → List pRw} {G' : xG_} (h : cLw S G s rg R F) (hf : xFl s rg G G') (hp : p < s.1.length) (hk : qK s p = rg) (hz : ∀ b j, ¬ (111 + 6 * p ≤ b ∧ b ≤ 113 + 6 * p) → 105 < b → G' b j = G b j) {F1 : List pRw} (a2 : cRw S G' (111 + 6 * p) (qN s p) 100 F1) (a3 : F1.Pairwise rwLt) (a4 : ∀ r ∈ F1, r.2 = 0) (a5 : (F p).length ≤ F1.length ∧ ((R p).length + (F p).length ≤ 100 → (R p).length + F1.length ≤ 100)) (a6 : G' 93 15 = (qTo F s.1.length : Int) + ((F1.length - (F p).length : Nat) : Int)) : cLw S G' s rg R (fun k => if k = p then F1 else F k) := by
  obtain ⟨c1, c2, c3⟩ := h
  refine ⟨fun k hk1 hk2 => ?_, fun k hk1 hk2 => ?_, ?_⟩
  · by_cases c : k = p
    · subst c
      show cRw S G' (111 + 6 * k) (qN s k) 100 (if k = k then F1 else F k) ∧ (if k = k then F1 else F k).Pairwise rwLt ∧ (∀ r ∈ (if k = k then F1 else F k), r.2 = 0) ∧ (R k).length + (if k = k then F1 else F k).length ≤ 100
      rw [if_pos rfl]
      exact ⟨a2, a3, a4, a5.2 (c1 k hk1 hk2).2.2.2⟩
    · show cRw S G' (111 + 6 * k) (qN s k) 100 (if k = p then F1 else F k) ∧ (if k = p then F1 else F k).Pairwise rwLt ∧ (∀ r ∈ (if k = p then F1 else F k), r.2 = 0) ∧ (R k).length + (if k = p then F1 else F k).length ≤ 100
      rw [if_neg c]
      obtain ⟨d1, d2⟩ := c1 k hk1 hk2
      exact ⟨d1.ge (fun _ _ _ => rfl) (fun j => hz _ _ (by omega) (by omega)) (fun j => hz _ _ (by omega) (by omega)) (fun j => hz _ _ (by omega) (by omega)), d2⟩
  · show (if k = p then F1 else F k) = []
    rw [if_neg (fun y => by rw [y] at hk2; exact hk2 hk)]
    exact c2 k hk1 hk2
  · rw [a6, qTo_up a5.1 _ hp]
    omega
/-- all rules of a level -/
theorem k_149r (hf : 100003010 < f) (hn : n ≤ 1700) (hxr : ∀ p, p < s.1.length → qK s p = rg → xp p = 108 + 6 * p ∧ cp p = 100) (hmb : ∀ j, mb.testBit j = true ↔ j < s.1.length ∧ qK s j = rg) (hmb16 : mb < 2 ^ 16) (h0 : ∀ p, p < s.1.length → qK s p = rg → R0 p = []) (hs0 : ∀ p, p < s.1.length → (R0 p).Pairwise rwLt) (hC : wkC s rg R0 n R) :
    ∀ (d r fu : Nat) (G : xG_) (F : Nat → List pRw), r + d = s.2.2.2.2.1.length → d < fu → cWk S G q nx s xp cp R → cLw S G s rg R F → (∀ p, p < s.1.length → qK s p = rg → ∀ xs, (∃ y ∈ F p, y.1 = xs) ↔ stD s rg ((n + 1 : Nat) : Int) R r p xs) →
      ∃ G', xFl s rg G G' ∧ cPs G' ∧ ((c149_89 r66 f fu 93 (rg : Int) (mb : Int) ((n + 1 : Nat) : Int) (r : Int) (S, G, m) = some (0, (S, G', m)) ∧ stO s rg ((n + 1 : Nat) : Int) R) ∨
        ∃ F', c149_89 r66 f fu 93 (rg : Int) (mb : Int) ((n + 1 : Nat) : Int) (r : Int) (S, G, m) = (c154 f 93 (rg : Int) ((n + 1 : Nat) : Int) (S, G', m)).bind (fun T => r66 93 (rg : Int) (mb : Int) ((n + 2 : Nat) : Int) T) ∧ cLw S G' s rg R F' ∧ ∀ p, p < s.1.length → qK s p = rg → ∀ xs, (∃ y ∈ F' p, y.1 = xs) ↔ stD s rg ((n + 1 : Nat) : Int) R s.2.2.2.2.1.length p xs) := by
  intro d
  induction d with
  | zero =>
    intro r fu G F e1 e2 h hF hD
    obtain ⟨fu, rfl⟩ : ∃ t, fu = t + 1 := ⟨fu - 1, by omega⟩
    obtain ⟨⟨a1, a2, a3, a4, a5, a6⟩, b⟩ := h
    have e : r = s.2.2.2.2.1.length := by omega
    refine ⟨G, fun _ _ _ _ _ _ => rfl, a2, .inr ⟨F, ?_, hF, by rw [← e]; exact hD⟩⟩
    have st : c149_89 r66 f (fu + 1) 93 (rg : Int) (mb : Int) ((n + 1 : Nat) : Int) (r : Int) (S, G, m) = _ := st_89e (r89 := c149_89 r66 f fu) a1 a3 a5.1.1 (by rw [e]; exact a5.2.2.2.2.2.1.1)
    rw [st]
    have e3 : xwr (((n + 1 : Nat) : Int) + 1) = ((n + 2 : Nat) : Int) := by rw [xwr_g _ (by omega) (by omega)]; omega
    rw [e3]
  | succ d ih =>
    intro r fu G F e1 e2 h hF hD
    obtain ⟨fu, rfl⟩ : ∃ t, fu = t + 1 := ⟨fu - 1, by omega⟩
    have h' := h
    obtain ⟨⟨a1, a2, a3, a4, a5, a6⟩, b⟩ := h'
    have hr : r < s.2.2.2.2.1.length := by omega
    obtain ⟨u, K, pl, x7, x0, hX, hI, _⟩ := h.rule hr
    have us : S u = (1, 6, 20) := hX.2.1.1.1
    have hm : s.2.2.2.2.1.getD r dRu ∈ s.2.2.2.2.1 := by rw [getD_e hr]; exact List.getElem_mem hr
    obtain ⟨w1, w2, w3, w4, w5, w6, w7, w8, w9⟩ := a6.1.1.2.2.2.2.2.2 _ hm
    have hnp : s.1.length ≤ 16 := a6.1.1.1
    obtain ⟨p, hp⟩ : ∃ p : Nat, (s.2.2.2.2.1.getD r dRu).1 = (p : Int) := ⟨(s.2.2.2.2.1.getD r dRu).1.toNat, by omega⟩
    have hpn : p < s.1.length := by omega
    have hr24 := a6.1.1.2.2.2.2.2.1
    have hq8 : G (q + 8) p = ((qK s p : Nat) : Int) := a5.2.2.2.2.2.2.2.1.1 p hpn
    have hst1 : (((n + 1 : Nat) : Int) = 1) ↔ n = 0 := by omega
    by_cases hk : qK s p = rg
    · obtain ⟨ow, o1, o2, o3⟩ := k_151o (f := f) (m := m) (lv := ((n + 1 : Nat) : Int)) (mb := mb) (by omega) hX.2.1 hmb16 (fun l hl h1 => by
        obtain ⟨y1, y2⟩ := w9 _ (lt_in hl)
        have y3 := y2 (by omega)
        rcases y1 with ⟨_, _, z, _⟩ | ⟨z, _⟩ <;> omega)
      have eld : (if ow = 0 then (if ((n + 1 : Nat) : Int) = 1 then (1 : Int) else 0) else (if ((n + 1 : Nat) : Int) = 1 then 0 else (ow : Int))) = ((ldM ow n : Nat) : Int) := by
        unfold ldM
        by_cases c1 : ow = 0
        · rw [if_pos c1, if_pos c1]
          by_cases c2 : n = 0
          · rw [if_pos (hst1.mpr c2), if_pos c2]; rfl
          · rw [if_neg (fun y => c2 (hst1.mp y)), if_neg c2]; rfl
        · rw [if_neg c1, if_neg c1]
          by_cases c2 : n = 0
          · rw [if_pos (hst1.mpr c2), if_pos c2]; rfl
          · rw [if_neg (fun y => c2 (hst1.mp y)), if_neg c2]
      rw [eld] at o3
      have st : c149_89 r66 f (fu + 1) 93 (rg : Int) (mb : Int) ((n + 1 : Nat) : Int) (r : Int) (S, G, m) = _ := st_89y (r89 := c149_89 r66 f fu) (p := p) a1 a3 a5.1.1 a5.1.2.2.2.2.2.2.2.1 a5.1.2.2.2.2.2.2.2.2.1 a5.2.2.2.2.2.1.1 hr hr24 a5.2.1.2.2.2.2.2.2.1 a5.2.1.2.2.2.2.2.2.2.1 x7 us (by rw [x0]; exact hp) (by omega) (by rw [hq8, hk]) o3
      obtain ⟨c1, c2, c3, _⟩ := hF.1 p hpn hk
      have hcb : qTo F s.1.length ≤ 100 * s.1.length := qTo_le _ (fun k hk' => by
        by_cases ck : qK s k = rg
        · exact (hF.1 k hk' ck).1.2.2.2.2.1
        · rw [hF.2.1 k hk' ck]; exact Nat.zero_le _)
      obtain ⟨v, G1, k1, k2, k3, k4⟩ := k_148r (f := f) (m := m) (r66 := r66) (r89 := c149_89 r66 f fu) (cm := (qTo F s.1.length : Int)) hf h hr hn x7 hp hk hxr hmb hmb16 h0 hs0 hC o1 o2 c1 c2 c3 hF.2.2 (by omega) (by omega)
      have st2 := st.trans k1
      have fr : xFl s rg G G1 := fun b j y1 y2 y3 y4 => k2 b j y1 y2 y3 (y4 p hpn hk)
      have inD : ∀ xs, rNw R p xs → ((qG (s.2.2.2.2.1.getD r dRu) ≠ 0 → n = 0) ∧ rlD (s.2.2.2.2.1.getD r dRu) R xs) → stD s rg ((n + 1 : Nat) : Int) R (r + 1) p xs := fun xs y1 y2 => (stD_s hr).mpr (.inr ⟨hp, hk, fun y => hst1.mpr (y2.1 y), y2.2, y1⟩)
      rcases k4 with ⟨b1, F1, b2, b3, b4, b5, b6, b7⟩ | ⟨b1, W, b2, b3, b4⟩
      · rw [if_neg (by omega)] at st2
        have hF1 : cLw S G1 s rg R (fun k => if k = p then F1 else F k) := hF.fx fr hpn hk (fun b j y1 y2 => k2 b j (by omega) (by omega) (by omega) y1) b2 b3 b4 b5 b6
        obtain ⟨G2, i1, i2, i3⟩ := ih (r + 1) fu G1 _ (by omega) (by omega) (h.ge k3 (k2 _ _ (by omega) (by omega) (by omega) (by omega)) (fun j => k2 _ _ (by omega) (by omega) (by omega) (by omega)) (fun k hk' b y1 y2 j => k2 b j (by omega) (by omega) (by omega) (by omega)) (fun b j y => k2 b j (by omega) (by omega) (by omega) (by omega))) hF1 (fun k hk1 hk2 xs => by
          show (∃ y ∈ (if k = p then F1 else F k), y.1 = xs) ↔ _
          by_cases ck : k = p
          · subst ck
            rw [if_pos rfl, b7 xs, stD_s hr, hD k hk1 hk2 xs]
            constructor
            · rintro (y | ⟨y1, y2⟩)
              · exact .inl y
              · exact .inr ⟨hp, hk, fun y => hst1.mpr (y2.1 y), y2.2, y1⟩
            · rintro (y | ⟨y1, y2, y3, y4, y5⟩)
              · exact .inl y
              · exact .inr ⟨y5, fun y => hst1.mp (y3 y), y4⟩
          · rw [if_neg ck, stD_s hr, hD k hk1 hk2 xs]
            constructor
            · exact .inl
            · rintro (y | ⟨y1, _⟩)
              · exact y
              · omega)
        refine ⟨G2, fun b j y1 y2 y3 y4 => (i1 b j y1 y2 y3 y4).trans (fr b j y1 y2 y3 y4), i2, ?_⟩
        rw [st2]
        exact i3
      · rw [if_pos b1] at st2
        refine ⟨G1, fr, k3, .inl ⟨st2, W.map (fun xs => (p, xs)), p, ?_, hpn, fun y hy => ?_, by rw [fCt_map]; exact b3⟩⟩
        · rw [List.nodup_iff_pairwise_ne, List.pairwise_map]
          exact (List.nodup_iff_pairwise_ne.mp b2).imp (fun {x y} hne e => hne (by injection e))
        · obtain ⟨xs, z1, rfl⟩ := List.mem_map.mp hy
          show stD s rg _ R _ p xs
          rcases b4 xs z1 with z | ⟨z2, z3⟩
          · exact stD_m ((hD p hpn hk xs).mp z) (by omega)
          · exact stD_m (inD xs z2 z3) (by omega)
    · have st : c149_89 r66 f (fu + 1) 93 (rg : Int) (mb : Int) ((n + 1 : Nat) : Int) (r : Int) (S, G, m) = _ := st_89n (r89 := c149_89 r66 f fu) (p := p) (w := qK s p) a1 a3 a5.1.1 a5.1.2.2.2.2.2.2.2.1 a5.1.2.2.2.2.2.2.2.2.1 a5.2.2.2.2.2.1.1 hr hr24 a5.2.1.2.2.2.2.2.2.1 a5.2.1.2.2.2.2.2.2.2.1 x7 us (by rw [x0]; exact hp) (by omega) hq8 hk
      have st2 := st.trans (k_148z (lds := 0) (u := u) (r66 := r66) (r89 := c149_89 r66 f fu) (T := (S, G, m)) (by decide) (by rw [xwr_g _ (by omega) (by omega)]; omega : xwr ((r : Int) + 1) = ((r + 1 : Nat) : Int)) 8 0 f (by omega) (by omega) (fun j _ _ => Nat.zero_testBit j))
      rw [st2]
      exact ih (r + 1) fu G F (by omega) (by omega) h hF (fun k hk1 hk2 xs => by
        rw [stD_s hr, hD k hk1 hk2 xs]
        constructor
        · exact .inl
        · rintro (y | ⟨y1, y2, _⟩)
          · exact y
          · have : k = p := by omega
            subst this
            exact absurd y2 hk)
end
