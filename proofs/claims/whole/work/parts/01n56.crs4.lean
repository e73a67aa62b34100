section
/-! THE CLASS: reason: findWay() -/
section
variable {f u x l nv np a fa fn i p mb : Nat} {S : Nat → Nat × Nat × Nat} {G G' : xG_} {m : Nat × Nat} {K : pCd} {Ls : List pLt} {pl : List Nat} {br rk : Int} {qn xp cp : Nat → Nat} {RR : Nat → List pRw} {lO hI : Nat → Int} {vl : Nat → Int} {I : List pCd} {g : Int × Int × Int} {as : List Int}
theorem kd_at (hR : cRq S G u K Ls) (hl : l < Ls.length) : G (u + 2) l = 15 ↔ (Ls.getD l dLt).1 = 1 := by
  obtain ⟨_, _, _, hls, _⟩ := hR
  rcases hls.2.2 l hl with ⟨z1, z2, _⟩ | ⟨z1, z2, z3, _⟩
  · have z1' : (Ls.getD l dLt).1 = 1 ∨ (Ls.getD l dLt).1 = 2 := z1
    have z2' : G (u + 2) l = (if (Ls.getD l dLt).1 = 1 then 15 else 9) := z2
    rw [z2']
    by_cases c : (Ls.getD l dLt).1 = 1
    · rw [if_pos c]; exact ⟨fun _ => c, fun _ => rfl⟩
    · rw [if_neg c]; exact ⟨fun z => absurd z (by decide), fun z => absurd z c⟩
  · have z1' : (Ls.getD l dLt).1 = 3 := z1
    have z2' : G (u + 2) l = (Ls.getD l dLt).2.1 := z2
    have z3' : (Ls.getD l dLt).2.1 = 61 ∨ (Ls.getD l dLt).2.1 = 257 ∨ (Ls.getD l dLt).2.1 = 60 ∨ (Ls.getD l dLt).2.1 = 258 ∨ (Ls.getD l dLt).2.1 = 62 ∨ (Ls.getD l dLt).2.1 = 259 := z3
    rw [z2', z1']
    omega
def rsF (RR : Nat → List pRw) (lO hI : Nat → Int) (vl : Nat → Int) (Ls : List pLt) (l : Nat) (v : Int) : Prop := fst1 (fun j => (lO l ≤ ((RR (Ls.getD l dLt).2.1.toNat).getD j dRw).2 ∧ ((RR (Ls.getD l dLt).2.1.toNat).getD j dRw).2 ≤ hI l) ∧ sTs vl (Ls.getD l dLt).2.2.2.1 ((RR (Ls.getD l dLt).2.1.toNat).getD j dRw).1) (RR (Ls.getD l dLt).2.1.toNat).length v
theorem atN_m {l l' : Nat} (h : l ≤ l') : atN Ls l ≤ atN Ls l' := by
  unfold atN
  have : (Ls.take l).filter (fun y => decide (y.1 = 1)) = ((Ls.take l').take l).filter (fun y => decide (y.1 = 1)) := by rw [List.take_take, Nat.min_eq_left h]
  rw [this]
  exact ((List.take_sublist _ _).filter _).length_le
/-- the rows of a WAY -/
theorem k_164r (hf : 700 < f) (hfa : 203 < fa) (hx : ∀ p, p < np → 203 < xp p) (hat : pAtoms Ls ≤ 3) (hl8 : Ls.length ≤ 8) : ∀ (d l fu : Nat) (G : xG_), l + d = Ls.length → d < fu → cWE S G u K Ls pl fa fn np nv a br qn xp cp RR lO hI → (∀ k, k < 8 → G 106 k = vl k) → ∃ G', c164_226 f fu 93 u 1 (atN Ls l : Int) (l : Int) (S, G, m) = some (1, (S, G', m)) ∧ (∀ b j, b ≠ 84 → ¬ (87 ≤ b ∧ b ≤ 92) → ¬ (b = 83 ∧ (j = 6 ∨ j = 7)) → b ≠ 107 → G' b j = G b j) ∧ cPs G' ∧ (∀ k, k < atN Ls l ∨ pAtoms Ls ≤ k → G' 107 k = G 107 k) ∧ ∀ l', l ≤ l' → l' < Ls.length → (Ls.getD l' dLt).1 = 1 → rsF RR lO hI vl Ls l' (G' 107 (atN Ls l')) := by
  intro d
  induction d with
  | zero =>
    intro l fu G e1 e2 h hv
    obtain ⟨fu, rfl⟩ : ∃ t, fu = t + 1 := ⟨fu - 1, by omega⟩
    refine ⟨G, ?_, fun _ _ _ _ _ _ => rfl, h.1.2.1, fun _ _ => rfl, fun l' y1 y2 => by omega⟩
    show c164_226b (c164_226 f fu) f _ _ _ _ _ _ = _
    unfold c164_226b
    rw [if_neg (by decide), o_gi h.2.1.1.1, Option.bind_some, h.2.1.2.2.2.1.1, if_pos (by omega)]
    exact if_pos (.inr rfl)
  | succ d ih =>
    intro l fu G e1 e2 h hv
    obtain ⟨fu, rfl⟩ : ∃ t, fu = t + 1 := ⟨fu - 1, by omega⟩
    have hl : l < Ls.length := by omega
    have ei : xwr ((l : Int) + 1) = ((l + 1 : Nat) : Int) := by rw [xwr_g _ (by omega) (by omega)]; omega
    have us := h.2.1.1
    have e0 := Eq.refl (c164_226 f (fu + 1) 93 u 1 (atN Ls l : Int) (l : Int) (S, G, m))
    conv at e0 => { rhs; change c164_226b (c164_226 f fu) f 93 u 1 (atN Ls l : Int) (l : Int) (S, G, m); unfold c164_226b }
    rw [if_neg (by decide), o_gi us.1, Option.bind_some, h.2.1.2.2.2.1.1, if_neg (by omega), o_gr us.1 h.2.1.2.1.2.1, Option.bind_some, o_a us.2.2.1 (by omega), Option.bind_some] at e0
    have ats := atN_s hl
    by_cases c : (Ls.getD l dLt).1 = 1
    · rw [if_pos c] at ats
      have le1 : atN Ls (l + 1) ≤ pAtoms Ls := by
        have := atN_m (Ls := Ls) (show l + 1 ≤ Ls.length by omega)
        have e : atN Ls Ls.length = pAtoms Ls := by unfold atN pAtoms; rw [List.take_length]
        omega
      have kd := (kd_at h.2.1 hl).mpr c
      obtain ⟨v, G1, g1, g2, g3, g4⟩ := k_143 (f := f) (m := m) (vl := vl) (by omega) h hfa hx hl (by omega) (by omega) hv
      have i1 : cq_is 9 14 83 (S, G, m) = some () := if_pos (s83 h.1.1)
      have es : cq_s 3 107 (atN Ls l : Int) v (S, G1, m) = some (S, xup2 G1 107 (atN Ls l) v, m) := o_s (s107 h.1.1) (by omega)
      have wa : xwr ((atN Ls l : Int) + 1) = (atN Ls (l + 1) : Int) := by rw [xwr_g _ (by omega) (by omega), ats]; omega
      unfold c164_275 at e0
      rw [kd, if_neg (fun z => z rfl), o_gr (y := 107) (s93 h.1.1) (p93_17 h.1.2.1), Option.bind_some, o_gr (y := 83) (s93 h.1.1) (p93_0 h.1.2.1), Option.bind_some, o_gr (y := 106) (s93 h.1.1) (p93_12 h.1.2.1), Option.bind_some, i1, Option.bind_some, g1, Option.bind_some, es, Option.bind_some, wa, ei] at e0
      have z2 : ∀ b j, b ≠ 84 → ¬ (87 ≤ b ∧ b ≤ 92) → ¬ (b = 83 ∧ (j = 6 ∨ j = 7)) → b ≠ 107 → xup2 G1 107 (atN Ls l) v b j = G b j := fun b j y1 y2 y3 y4 => by rw [xup2_n (by omega), g2 b j y1 y2 y3]
      have p2 : cPs (xup2 G1 107 (atN Ls l) v) := g3.ge (fun b j hz => xup2_n (by
        rcases hz with z | z | z | z | z | z | z | ⟨z, z1, z2, k, z3⟩ | z | z | z | ⟨k, z1, z2, z3⟩ <;> omega))
      obtain ⟨G', r1, r2, r3, r4, r5⟩ := ih (l + 1) fu (xup2 G1 107 (atN Ls l) v) (by omega) (by omega) (h.f3 hfa hx p2 (fun b j y1 y2 y3 _ _ y6 _ => z2 b j y1 y2 y3 y6)) (fun k hk => by rw [z2 _ _ (by omega) (by omega) (by omega) (by omega)]; exact hv k hk)
      refine ⟨G', e0.trans r1, fun b j y1 y2 y3 y4 => by rw [r2 b j y1 y2 y3 y4, z2 b j y1 y2 y3 y4], r3, fun k hk => by rw [r4 k (by omega), xup2_n (by omega), g2 _ _ (by omega) (by omega) (by omega)], fun l' y1 y2 y3 => ?_⟩
      by_cases el : l' = l
      · subst el
        rw [r4 _ (by omega), xup2_s]
        exact g4
      · exact r5 l' (by omega) y2 y3
    · rw [if_neg c] at ats
      have kd : ¬ G (u + 2) l = 15 := fun z => c ((kd_at h.2.1 hl).mp z)
      unfold c164_275 at e0
      rw [if_pos kd, ei] at e0
      obtain ⟨G', r1, r2, r3, r4, r5⟩ := ih (l + 1) fu G (by omega) (by omega) h hv
      rw [ats, Nat.add_zero] at r1 r4
      refine ⟨G', e0.trans r1, r2, r3, r4, fun l' y1 y2 y3 => ?_⟩
      by_cases el : l' = l
      · subst el; exact absurd y3 c
      · exact r5 l' (by omega) y2 y3
/-- which RANKS rows may have -/
def hiR (Ls : List pLt) (mb : Nat) (rk : Int) (l : Nat) : Int := if (Ls.getD l dLt).1 = 1 ∧ mb.testBit (Ls.getD l dLt).2.1.toNat = true then rk - 1 else 1700
theorem k_164h (hf : 20 < f) (hs : cSs S) (hmb : mb < 2 ^ 16) (hrk : 0 ≤ rk ∧ rk ≤ 2000) (hw : ∀ l, l < Ls.length → (Ls.getD l dLt).1 = 1 → 0 ≤ (Ls.getD l dLt).2.1 ∧ (Ls.getD l dLt).2.1 < 16) : ∀ (d l fu : Nat) (G : xG_), l + d = Ls.length → d < fu → cPs G → cRq S G u K Ls → ∃ G', c164_34 f fu 93 u rk (mb : Int) (l : Int) (S, G, m) = c164_82 f f 93 u 0 (S, G', m) ∧ (∀ b j, b ≠ 86 → G' b j = G b j) ∧ cPs G' ∧ ∀ j, j < 8 → G' 86 j = if l ≤ j ∧ j < Ls.length then hiR Ls mb rk j else G 86 j := by
  intro d
  induction d with
  | zero =>
    intro l fu G e1 e2 hp hR
    obtain ⟨fu, rfl⟩ : ∃ t, fu = t + 1 := ⟨fu - 1, by omega⟩
    refine ⟨G, ?_, fun _ _ _ => rfl, hp, fun j hj => by rw [if_neg (by omega)]⟩
    show c164_34b (c164_34 f fu) f _ _ _ _ _ _ = _
    unfold c164_34b
    rw [o_gi hR.1.1, Option.bind_some, hR.2.2.2.1.1, if_pos (by omega)]
  | succ d ih =>
    intro l fu G e1 e2 hp hR
    obtain ⟨fu, rfl⟩ : ∃ t, fu = t + 1 := ⟨fu - 1, by omega⟩
    have hl : l < Ls.length := by omega
    have hl8 := hR.2.2.2.1.2.1
    have hu := hR.2.2.2.2.1
    have ei : xwr ((l : Int) + 1) = ((l + 1 : Nat) : Int) := by rw [xwr_g _ (by omega) (by omega)]; omega
    obtain ⟨w, w1, w2, w3⟩ := k_152 (f := f) (m := m) hR hl hmb (hw l hl)
    have st : c164_34 f (fu + 1) 93 u rk (mb : Int) (l : Int) (S, G, m) = c164_34 f fu 93 u rk (mb : Int) ((l + 1 : Nat) : Int) (S, xup2 G 86 l (hiR Ls mb rk l), m) := by
      show c164_34b (c164_34 f fu) f _ _ _ _ _ _ = _
      unfold c164_34b c164_72
      rw [o_gi hR.1.1, Option.bind_some, hR.2.2.2.1.1, if_neg (by omega), o_gr (y := 83) (s93 hs) (p93_0 hp), Option.bind_some, o_gr (y := 86) (s83 hs) (p83_2 hp), Option.bind_some, w1, Option.bind_some]
      unfold hiR
      unfold ownL at w3
      by_cases c : w = 0
      · rw [if_pos c, if_neg (fun z => by have := w3.mpr z; omega), o_s (s86 hs) (by omega), Option.bind_some, ei]
      · rw [if_neg c, if_pos (w3.mp (by omega)), xwr_g (rk - 1) (by omega) (by omega), o_s (s86 hs) (by omega), Option.bind_some, ei]
    have z1 : ∀ b j, b ≠ 86 → xup2 G 86 l (hiR Ls mb rk l) b j = G b j := fun b j y => xup2_n (by omega)
    obtain ⟨G', r1, r2, r3, r4⟩ := ih (l + 1) fu (xup2 G 86 l (hiR Ls mb rk l)) (by omega) (by omega) (hp.ge (fun b j hz => z1 b j (by
      rcases hz with z | z | z | z | z | z | z | ⟨z, z1, z2, k, z3⟩ | z | z | z | ⟨k, z1, z2, z3⟩ <;> omega))) (hR.fx (fun b j y => z1 b j (by omega)))
    refine ⟨G', st.trans r1, fun b j y => by rw [r2 b j y, z1 b j y], r3, fun j hj => ?_⟩
    rw [r4 j hj]
    by_cases ej : j = l
    · subst ej
      rw [if_neg (by omega), if_pos (by omega), xup2_s]
    · rw [xup2_n (by omega)]
      by_cases c : l + 1 ≤ j ∧ j < Ls.length
      · rw [if_pos c, if_pos (by omega)]
      · rw [if_neg c, if_neg (by omega)]
/-- VARIABLES that the HEAD tells -/
theorem k_164f (hf : 20 < f) (hs : cSs S) (hnv : nv ≤ 8) (hnI : I.length ≤ 4) (hwI : ∀ c, c < I.length → wC nv (I.getD c [])) (has : as.length = I.length) (hav : ∀ c, c < as.length → vOk (as.getD c 0)) : ∀ (d c fu : Nat) (G : xG_) (b : Nat) (vl : Nat → Int), c + d = I.length → d < fu → cWy S G u K → cIt G u K g I → (∀ c, c < as.length → G 105 c = as.getD c 0) → lvE G 0 b vl → (∀ v : Nat → Int, (∀ c', c' < c → ∀ x : Nat, I.getD c' [] = [(2, (x : Int))] → v x = as.getD c' 0) → ∀ j, b.testBit j = true → v j = vl j) →
    (c164_82 f fu 93 u (c : Int) (S, G, m) = some (0, (S, G, m)) ∧ ∀ v : Nat → Int, ¬ ∀ c', c' < I.length → ∀ x : Nat, I.getD c' [] = [(2, (x : Int))] → v x = as.getD c' 0) ∨
    (∃ G' b' vl' , (∀ a j, a ≠ 84 → ¬ (a = 87 ∧ j = 0) → G' a j = G a j) ∧ cPs G' ∧ ((c164_82 f fu 93 u (c : Int) (S, G, m) = c164_138 f f 93 u 0 0 (S, G', m) ∧ lvE G' 0 b' vl' ∧ ∀ v : Nat → Int, (∀ c', c' < I.length → ∀ x : Nat, I.getD c' [] = [(2, (x : Int))] → v x = as.getD c' 0) → ∀ j, b'.testBit j = true → v j = vl' j) ∨ (c164_82 f fu 93 u (c : Int) (S, G, m) = some (0, (S, G', m)) ∧ ∀ v : Nat → Int, ¬ ∀ c', c' < I.length → ∀ x : Nat, I.getD c' [] = [(2, (x : Int))] → v x = as.getD c' 0))) := by
  intro d
  induction d with
  | zero =>
    intro c fu G b vl e1 e2 h hI hgv hl hinv
    obtain ⟨fu, rfl⟩ : ∃ t, fu = t + 1 := ⟨fu - 1, by omega⟩
    refine .inr ⟨G, b, vl, fun _ _ _ _ => rfl, h.2.1, .inl ⟨?_, hl, fun v hv => hinv v (fun c' hc' => hv c' (by omega))⟩⟩
    show c164_82b (c164_82 f fu) f _ _ _ _ = _
    unfold c164_82b
    rw [o_gi h.2.2.2.2.1.1, Option.bind_some, hI.1, if_pos (by omega)]
  | succ d ih =>
    intro c fu G b vl e1 e2 h hI hgv hl hinv
    obtain ⟨fu, rfl⟩ : ∃ t, fu = t + 1 := ⟨fu - 1, by omega⟩
    have hc : c < I.length := by omega
    have hu := h.2.2.2.1
    have ei : xwr ((c : Int) + 1) = ((c + 1 : Nat) : Int) := by rw [xwr_g _ (by omega) (by omega)]; omega
    have is1 : cq_is 6 20 u (S, G, m) = some () := if_pos h.2.2.2.2.1.1
    have i83 : cq_is 9 14 83 (S, G, m) = some () := if_pos (s83 hs)
    have e0 := Eq.refl (c164_82 f (fu + 1) 93 u (c : Int) (S, G, m))
    conv at e0 => { rhs; change c164_82b (c164_82 f fu) f 93 u (c : Int) (S, G, m); unfold c164_82b }
    rw [o_gi h.2.2.2.2.1.1, Option.bind_some, hI.1, if_neg (by omega), is1, Option.bind_some] at e0
    rcases k_91w (f := f) (m := m) (s := c) h (by omega) (hI.2.2.1 c hc) (hwI c hc) hnv with ⟨x, x1, x2, x3⟩ | ⟨x1, x2⟩
    · obtain ⟨v, G1, g1, g2, g3⟩ := k_131 (f := f) (m := m) (w := as.getD c 0) hs h.2.1 (by omega : x < 8) hl (hav c (by omega))
      have ea : cq_a 4 105 (c : Int) (S, G, m) = some (as.getD c 0) := by rw [← hgv c (by omega)]; exact o_a (s105 hs) (by omega)
      have p1 : cPs G1 := h.2.1.ge (fun b j hz => g2 b j (by
        rcases hz with z | z | z | z | z | z | z | ⟨z, z1, z2, k, z3⟩ | z | z | z | ⟨k, z1, z2, z3⟩ <;> omega) (by
        rcases hz with z | z | z | z | z | z | z | ⟨z, z1, z2, k, z3⟩ | z | z | z | ⟨k, z1, z2, z3⟩ <;> omega))
      rw [x3, Option.bind_some, if_neg (show ¬ ((x : Nat) : Int) = -1 by omega), o_gr (y := 83) (s93 hs) (p93_0 h.2.1), Option.bind_some, o_gr (y := 105) (s93 hs) (p93_11 h.2.1), Option.bind_some, ea, Option.bind_some, i83, Option.bind_some, g1, Option.bind_some] at e0
      rcases g3 with ⟨rfl, g4, g5⟩ | ⟨rfl, vl', g4, g5, g6⟩
      · rw [if_neg (fun z => z rfl)] at e0
        refine .inr ⟨G1, b, vl, fun a j y1 y2 => g2 a j (by omega) y2, p1, .inr ⟨e0, fun v hv => ?_⟩⟩
        have q1 := hinv v (fun c' hc' => hv c' (by omega)) x g4
        have q2 := hv c hc x x2
        rw [q2] at q1
        exact g5 q1.symm
      · unfold c164_126 at e0
        rw [if_pos (show ¬ (1 : Int) = 0 by decide), ei] at e0
        have zf : ∀ a j, 278 < a → G1 a j = G a j := fun a j y => g2 a j (by omega) (by omega)
        have h1 : cWy S G1 u K := by
          obtain ⟨a1, a2, a3, a4, a5, a6, ⟨b1, b2, b3, b4, b5⟩, a8⟩ := h
          refine ⟨a1, p1, by rw [g2 _ _ (by omega) (by omega)]; exact a3, a4, a5, ?_, ⟨by rw [zf _ _ (by omega)]; exact b1, by rw [zf _ _ (by omega)]; exact b2, b3, b4, fun k hk => by rw [zf _ _ (by omega), zf _ _ (by omega)]; exact b5 k hk⟩, a8⟩
          unfold cRuP at a6 ⊢
          simp only [zf u _ a4]
          exact a6
        have key := ih (c + 1) fu G1 (b ||| 2 ^ x) vl' (by omega) (by omega) h1 (hI.fx hu zf) (fun c' hc' => by rw [g2 _ _ (by omega) (by omega)]; exact hgv c' hc') g4 (fun v hv j hj => by
          by_cases ej : j = x
          · rw [ej, g5]; exact hv c (by omega) x x2
          · rw [Nat.testBit_or, Nat.testBit_two_pow, decide_eq_false (fun e => ej e.symm), Bool.or_false] at hj
            rw [g6 j hj]
            exact hinv v (fun c' hc' => hv c' (by omega)) j hj)
        rcases key with ⟨k1, k2⟩ | ⟨G2, b2, vl2, k1, k2, k3⟩
        · exact .inr ⟨G1, b, vl, fun a j y1 y2 => g2 a j (by omega) y2, p1, .inr ⟨e0.trans k1, k2⟩⟩
        · refine .inr ⟨G2, b2, vl2, fun a j y1 y2 => by rw [k1 a j y1 y2, g2 a j (by omega) y2], k2, ?_⟩
          rcases k3 with ⟨k3, k4⟩ | ⟨k3, k4⟩
          · exact .inl ⟨e0.trans k3, k4⟩
          · exact .inr ⟨e0.trans k3, k4⟩
    · unfold c164_126 at e0
      rw [x2, Option.bind_some, if_pos rfl, ei] at e0
      have key := ih (c + 1) fu G b vl (by omega) (by omega) h hI hgv hl (fun v hv => hinv v (fun c' hc' => hv c' (by omega)))
      rcases key with ⟨k1, k2⟩ | ⟨G2, b2, vl2, k1, k2, k3⟩
      · exact .inl ⟨e0.trans k1, k2⟩
      · refine .inr ⟨G2, b2, vl2, k1, k2, ?_⟩
        rcases k3 with ⟨k3, k4⟩ | ⟨k3, k4⟩
        · exact .inl ⟨e0.trans k3, k4⟩
        · exact .inr ⟨e0.trans k3, k4⟩
end
end
section
/-! THE CLASS: reason: findWay() whole -/
theorem qMk_get {I : List pCd} {v : Nat → Int} : ∀ (n : Nat) (xs : List Int), qMk I (-1) v n = some xs → ∀ c, c < n → qEv v (I.getD c []) = some (xs.getD c 0)
  | 0, xs, _ => fun c hc => absurd hc (Nat.not_lt_zero _)
  | n + 1, xs, h => by
    have h' : ((qMk I (-1) v n).bind fun xs => if (n : Int) = -1 then some (xs ++ [0]) else (qEv v (I.getD n [])).bind fun z => some (xs ++ [z])) = some xs := h
    cases hq : qMk I (-1) v n with
    | none => rw [hq] at h'; cases h'
    | some ys =>
      rw [hq, Option.bind_some, if_neg (by omega)] at h'
      cases he : qEv v (I.getD n []) with
      | none => rw [he] at h'; cases h'
      | some z =>
        rw [he, Option.bind_some] at h'
        injection h' with h'
        have ly := qMk_len n ys hq
        intro c hc
        by_cases e : c = n
        · rw [e, he, ← h']
          simp only [List.getD_eq_getElem?_getD]
          rw [List.getElem?_append_right (by omega), ly, Nat.sub_self]
          rfl
        · rw [qMk_get n ys hq c (by omega), ← h']
          simp only [List.getD_eq_getElem?_getD]
          rw [List.getElem?_append_left (by omega)]
section
variable {f q nq nx mp rp r sl p : Nat} {S : Nat → Nat × Nat × Nat} {G : xG_} {m : Nat × Nat} {s : pPg} {xr cr : Nat → Nat} {M : Nat → List pRw} {as : List Int} {rk : Int}
/-- a rule over a moment's rows -/
theorem mx_rule (hs : cSs S) (hP : cPgm S G q nq s) (hok : qOc s) (hM : cMr S G nx mp q rp s xr cr M) (hMo : okM8 s M) (hrp : 203 < rp) (hr : r < s.2.2.2.2.1.length) : ∃ (u : Nat) (K : pCd) (pl : List Nat), (G (q + 7) r = (u : Int) ∧ 278 < u ∧ G u 0 = (s.2.2.2.2.1.getD r dRu).1) ∧ cRq S G u K (s.2.2.2.2.1.getD r dRu).2.2.2.2.2 ∧ cIt G u K (s.2.2.2.2.1.getD r dRu).2.2.1 (s.2.2.2.2.1.getD r dRu).2.2.2.1 ∧ (G u 6 = ((s.2.2.2.2.1.getD r dRu).2.2.2.2.1.length : Int) ∧ (s.2.2.2.2.1.getD r dRu).2.2.2.2.1.length ≤ 8) ∧ pl.Nodup ∧ (∃ dd, plB (s.2.2.2.2.1.getD r dRu).2.2.2.2.2 pl 0 = some dd) ∧ ∀ (G' : xG_) (br : Int) (lo hi : Nat → Int), cPs G' → (∀ a j, 107 < a → G' a j = G a j) → G' 83 3 = (u : Int) → G' 83 4 = (rp : Int) → G' 83 5 = br → (∀ l, l < 8 → G' 85 l = lo l ∧ G' 86 l = hi l) → cWE S G' u K (s.2.2.2.2.1.getD r dRu).2.2.2.2.2 pl rp s.1.length s.1.length (s.2.2.2.2.1.getD r dRu).2.2.2.2.1.length (qAs (s.2.2.2.2.1.getD r dRu).2.2.1 (s.2.2.2.2.1.getD r dRu).2.2.2.1) br (qN s) xr cr M lo hi := by
  obtain ⟨u, e7, _, _, ⟨K, c1, c2, ⟨pl, l1, l2, l3⟩, c4, c5, c6⟩, e0, _⟩ := hP.2.2.2.2.2.1.2.2 r hr
  have hm : s.2.2.2.2.1.getD r dRu ∈ s.2.2.2.2.1 := by rw [getD_e hr]; exact List.getElem_mem hr
  obtain ⟨w1, w2, w3, w4, w5, w6, w7, w8, w9⟩ := hok.1.1.2.2.2.2.2.2 _ hm
  obtain ⟨i1, i2, i3⟩ := ru_it hok hm
  obtain ⟨n1, n2⟩ := l3 (hok.1.2.1 _ hm).1
  have hu := c1.2.2.2.2.1
  have hlt : ∀ p ∈ pl, p < (s.2.2.2.2.1.getD r dRu).2.2.2.2.2.length := fun p hp => by
    obtain ⟨k, hk, ek⟩ := List.getElem_of_mem hp
    have := (l2 k (by omega)).2.1
    rw [getD_e hk, ek] at this
    exact this
  refine ⟨u, K, pl, ⟨e7, hu, e0⟩, c1, c2, ⟨c4, c5⟩, n1, n2, fun G' br lo hi hp' hG' f3 f4 f5 fl => ⟨⟨hs, hp', f3, f4, f5, hM.2.2.2.1, by omega, Nat.le_refl _⟩, c1.fx (fun a j y => hG' a j (by omega)), ⟨w6, fun y hy => ⟨(w9 y hy).1, fun h3 => wAm_n hok.1 hok.2.2.1 hm hy h3⟩, (hok.2.1 _ hm).2⟩, ⟨l1, fun k hk => ?_⟩, fun p hp => ?_, fl⟩⟩
  · obtain ⟨z1, z2, z3⟩ := l2 k hk
    exact ⟨by rw [hG' _ _ (by omega)]; exact z1, z2, by rw [hG' _ _ (by omega)]; exact z3, plA_8 i3 (fun y hy => (w9 y hy).1.lv) w6 _ (fun p hp => hlt p (List.mem_of_mem_drop hp))⟩
  · obtain ⟨w1, w2, w3⟩ := hM.2.2.2.2 p hp
    obtain ⟨v1, v2, v3, _⟩ := hMo p hp
    exact ⟨by rw [hG' _ _ (by omega)]; exact w1, by omega, w3.ge (fun _ _ _ => rfl) (fun j => hG' _ _ (by omega)) (fun j => hG' _ _ (by omega)) (fun j => hG' _ _ (by omega)), v1, v2, v3⟩
/-- the RING of a HEAD -/
def mbR (s : pPg) (p : Nat) : Nat := qMb (qWm s.1.length (qRd s.2.2.2.2.1) s.1.length) (qK s p) s.1.length
theorem mbR_t (j : Nat) : (mbR s p).testBit j = true ↔ j < s.1.length ∧ qK s j = qK s p := qMb_t _ _ _ _
/-- which rows a WAY may be of -/
theorem op_hi (hok : qOc s) (hMo : okM8 s M) (hr : r < s.2.2.2.2.1.length) {l : Nat} (hl : l < (s.2.2.2.2.1.getD r dRu).2.2.2.2.2.length) (h1 : ((s.2.2.2.2.1.getD r dRu).2.2.2.2.2.getD l dLt).1 = 1) : ∀ w ∈ M ((s.2.2.2.2.1.getD r dRu).2.2.2.2.2.getD l dLt).2.1.toNat, ((0 ≤ w.2 ∧ w.2 ≤ hiR (s.2.2.2.2.1.getD r dRu).2.2.2.2.2 (mbR s p) rk l) ↔ qOp (qK s) (qK s p : Int) rk ((s.2.2.2.2.1.getD r dRu).2.2.2.2.2.getD l dLt).2.1.toNat w) := by
  have hm : s.2.2.2.2.1.getD r dRu ∈ s.2.2.2.2.1 := by rw [getD_e hr]; exact List.getElem_mem hr
  obtain ⟨w1, w2, w3, w4, w5, w6, w7, w8, w9⟩ := hok.1.1.2.2.2.2.2.2 _ hm
  obtain ⟨y1, y2⟩ := w9 _ (lt_in hl)
  have y4 : ((s.2.2.2.2.1.getD r dRu).2.2.2.2.2.getD l dLt).2.1 < s.1.length ∧ 0 ≤ ((s.2.2.2.2.1.getD r dRu).2.2.2.2.2.getD l dLt).2.1 := by
    have := y2 (by omega)
    rcases y1 with ⟨_, _, z, _⟩ | ⟨z, _⟩
    · exact ⟨z, this⟩
    · omega
  intro w hw
  have hk := (hMo _ (by omega : ((s.2.2.2.2.1.getD r dRu).2.2.2.2.2.getD l dLt).2.1.toNat < s.1.length)).2.2.2 w hw
  unfold hiR qOp
  by_cases c : qK s ((s.2.2.2.2.1.getD r dRu).2.2.2.2.2.getD l dLt).2.1.toNat = qK s p
  · rw [if_pos ⟨h1, (mbR_t _).mpr ⟨by omega, c⟩⟩, c]
    constructor
    · intro z; exact .inr (.inr (by omega))
    · rintro (z | z | z)
      · omega
      · exact absurd rfl z
      · omega
  · rw [if_neg (fun z => c ((mbR_t _).mp z.2).2)]
    exact ⟨fun _ => .inr (.inl (by omega)), fun _ => hk⟩
theorem lit_o (hok : qOc s) (hMo : okM8 s M) (hr : r < s.2.2.2.2.1.length) {v : Nat → Int} : (∀ l, l < (s.2.2.2.2.1.getD r dRu).2.2.2.2.2.length → litO (s.2.2.2.2.1.getD r dRu).2.2.2.2.2 M (fun _ => 0) (hiR (s.2.2.2.2.1.getD r dRu).2.2.2.2.2 (mbR s p) rk) l v) ↔ (sAR (s.2.2.2.2.1.getD r dRu).2.2.2.2.2 M (qOp (qK s) (qK s p : Int) rk) v ∧ sNC (s.2.2.2.2.1.getD r dRu).2.2.2.2.2 M v) := by
  have hm : s.2.2.2.2.1.getD r dRu ∈ s.2.2.2.2.1 := by rw [getD_e hr]; exact List.getElem_mem hr
  have op := fun {l} hl h1 => op_hi (p := p) (rk := rk) hok hMo hr (l := l) hl h1
  obtain ⟨w1, w2, w3, w4, w5, w6, w7, w8, w9⟩ := hok.1.1.2.2.2.2.2.2 _ hm
  generalize (s.2.2.2.2.1.getD r dRu).2.2.2.2.2 = Ls at *
  have ng : ∀ l, l < Ls.length → (Ls.getD l dLt).1 = 2 → ∀ w ∈ M (Ls.getD l dLt).2.1.toNat, 0 ≤ w.2 ∧ w.2 ≤ hiR Ls (mbR s p) rk l := fun l hl h2 w hw => by
    obtain ⟨y1, y2⟩ := w9 _ (lt_in hl)
    have y4 : (Ls.getD l dLt).2.1 < s.1.length ∧ 0 ≤ (Ls.getD l dLt).2.1 := by
      have := y2 (by omega)
      rcases y1 with ⟨_, _, z, _⟩ | ⟨z, _⟩
      · exact ⟨z, this⟩
      · omega
    have hk := (hMo _ (by omega : (Ls.getD l dLt).2.1.toNat < s.1.length)).2.2.2 w hw
    unfold hiR
    rw [if_neg (fun z => by have := z.1; omega)]
    exact hk
  constructor
  · intro h
    refine ⟨fun y hy h1 => ?_, fun y hy => ?_⟩
    · obtain ⟨l, hl, rfl⟩ := List.getElem_of_mem hy
      obtain ⟨q1, _, _⟩ := h l hl
      rw [getD_e hl] at q1
      obtain ⟨w, u1, u2, u3⟩ := q1 h1
      have := op hl (by rw [getD_e hl]; exact h1)
      rw [getD_e hl] at this
      exact ⟨w, u1, (this w u1).mp u2, u3⟩
    · obtain ⟨l, hl, rfl⟩ := List.getElem_of_mem hy
      obtain ⟨_, q2, q3⟩ := h l hl
      have n2 := ng l hl
      rw [getD_e hl] at q2 q3 n2
      exact ⟨fun h2 ⟨w, u1, u2⟩ => q2 h2 ⟨w, u1, n2 h2 w u1, u2⟩, q3⟩
  · rintro ⟨h1, h2⟩ l hl
    refine ⟨fun z => ?_, fun z ⟨w, u1, _, u3⟩ => (h2 _ (lt_in hl)).1 z ⟨w, u1, u3⟩, (h2 _ (lt_in hl)).2⟩
    obtain ⟨w, u1, u2, u3⟩ := h1 _ (lt_in hl) z
    exact ⟨w, u1, (op hl z w u1).mpr u2, u3⟩
/-- findWay() -/
theorem k_164w (hf : 100003010 < f) (hs : cSs S) (hp : cPs G) (hq : 226 < q) (h931 : G 93 1 = (q : Int)) (hP : cPgm S G q nq s) (hok : qOc s) (hM : cMr S G nx mp q rp s xr cr M) (hMo : okM8 s M) (hrp : 203 < rp) (hr : r < s.2.2.2.2.1.length) {u : Nat} (hu : G (q + 7) r = (u : Int)) (hhd : (s.2.2.2.2.1.getD r dRu).1 = (p : Int)) (hpn : p < s.1.length) (hg : (s.2.2.2.2.1.getD r dRu).2.2.1.1 = 0) (hrk : 0 ≤ rk ∧ rk ≤ 1700) (hgv : ∀ c, c < as.length → G 105 c = as.getD c 0) (has : as.length = qN s p) (hav : ∀ c, c < as.length → vOk (as.getD c 0)) :
    ∃ v G', c164 f 93 u rp rk (S, G, m) = some (v, (S, G', m)) ∧ cPs G' ∧ (∀ b j, ¬ (83 ≤ b ∧ b ≤ 92) → b ≠ 103 → b ≠ 106 → b ≠ 107 → G' b j = G b j) ∧ ((v = 0 ∧ (∀ w, ¬ rsW s M p as rk (s.2.2.2.2.1.getD r dRu) w) ∧ ∀ k, G' 107 k = G 107 k) ∨ (v = 1 ∧ ∃ b, rsW s M p as rk (s.2.2.2.2.1.getD r dRu) b ∧ (∀ x, rsW s M p as rk (s.2.2.2.2.1.getD r dRu) x → vLe b x) ∧ (∀ k, pAtoms (s.2.2.2.2.1.getD r dRu).2.2.2.2.2 ≤ k → G' 107 k = G 107 k) ∧ ∀ l, l < (s.2.2.2.2.1.getD r dRu).2.2.2.2.2.length → ((s.2.2.2.2.1.getD r dRu).2.2.2.2.2.getD l dLt).1 = 1 → rsS ((s.2.2.2.2.1.getD r dRu).2.2.2.2.2.getD l dLt) M (qOp (qK s) (qK s p : Int) rk) b (G' 107 (atN (s.2.2.2.2.1.getD r dRu).2.2.2.2.2 l)))) := by
  obtain ⟨u', K, pl, ⟨e7, hu8, e0⟩, hR, hI, ⟨h6, hnv⟩, hnd, ⟨dd, hpB⟩, we⟩ := mx_rule hs hP hok hM hMo hrp hr
  have eu : u' = u := by omega
  subst eu
  have hm : s.2.2.2.2.1.getD r dRu ∈ s.2.2.2.2.1 := by rw [getD_e hr]; exact List.getElem_mem hr
  have lit := fun {v} => lit_o (p := p) (rk := rk) hok hMo hr (v := v)
  have opl := fun {l} hl h1 => op_hi (p := p) (rk := rk) hok hMo hr (l := l) hl h1
  unfold rsW
  obtain ⟨w1, w2, w3, w4, w5, w6, w7, w8, w9⟩ := hok.1.1.2.2.2.2.2.2 _ hm
  obtain ⟨i1, i2, i3⟩ := ru_it hok hm
  have hsf := (hok.1.2.1 _ hm).1
  have hIl := (hok.1.2.1 _ hm).2
  have hdl := (hok.2.1 _ hm).2
  generalize s.2.2.2.2.1.getD r dRu = ru at *
  have h16 : s.1.length ≤ 16 := hok.1.1.1
  have hN : ru.2.2.2.1.length = qN s p := by
    have := (qN_c hok.1.1 p).1
    rw [hhd] at hIl
    omega
  have hgA : ru.2.2.1.2.1 = -1 := by
    rcases w5.1 with z | z
    · exact z.2.1
    · have : (10 : Int) ≤ ru.2.2.1.1 := z.1.1
      omega
  rw [hgA] at i1
  have h3 : G u' 3 = -1 := by
    rcases hI.2.2.2.2 with z | z
    · exact z.2
    · have := z.1.1; omega
  have hn4 := hI.2.1
  have hl8 := hR.2.2.2.1.2.1
  -- open
  obtain ⟨G1, a1, a2, a3, a4, a5, a6, a7, a8, a9, a10, a11⟩ := k_130 (u := u') (fa := rp) (m := m) (G := G) (f := f) (br := 0) (by omega) hs hp (.inl rfl)
  have hR1 : cRq S G1 u' K ru.2.2.2.2.2 := hR.fx (fun a j y => a2 a j (by omega) (by omega) (by omega) (by omega))
  have mb16 : mbR s p < 2 ^ 16 := qMb_16 _ _ _ h16
  obtain ⟨G2, b1, b2, b3, b4⟩ := k_164h (f := f) (m := m) (u := u') (K := K) (Ls := ru.2.2.2.2.2) (mb := mbR s p) (rk := rk) (by omega) hs mb16 (by omega) (fun l hl h1 => by
    obtain ⟨y1, y2⟩ := w9 _ (lt_in hl)
    have y3 := y2 (by omega)
    rcases y1 with ⟨_, _, z, _⟩ | ⟨z, _⟩
    · exact ⟨y3, by omega⟩
    · omega) ru.2.2.2.2.2.length 0 f G1 (by omega) (by omega) a3 hR1
  have z2 : ∀ b j, ¬ (83 ≤ b ∧ b ≤ 92) → G2 b j = G b j := fun b j y => by rw [b2 b j (by omega), a2 b j (by omega) (by omega) (by omega) (by omega)]
  have l2 : lvE G2 0 0 (fun _ => 0) := ⟨by rw [b2 _ _ (by omega)]; exact a9, by decide, fun k hk => by rw [Nat.zero_testBit] at hk; cases hk⟩
  have lohi : ∀ l, l < 8 → G2 85 l = 0 ∧ G2 86 l = hiR ru.2.2.2.2.2 (mbR s p) rk l := fun l hl => by
    refine ⟨by rw [b2 _ _ (by omega)]; exact a10 l hl, ?_⟩
    rw [b4 l hl]
    by_cases c : l < ru.2.2.2.2.2.length
    · rw [if_pos ⟨Nat.zero_le _, c⟩]
    · rw [if_neg (by omega), a11 l hl]
      unfold hiR
      have : ru.2.2.2.2.2.getD l dLt = dLt := by rw [List.getD_eq_getElem?_getD, List.getElem?_eq_none (by omega)]; rfl
      rw [this, if_neg (fun z => absurd z.1 (by decide))]
  have hE2 := we G2 0 (fun _ => 0) (hiR ru.2.2.2.2.2 (mbR s p) rk) b3 (fun a j y => z2 a j (by omega)) (by rw [b2 _ _ (by omega)]; exact a4) (by rw [b2 _ _ (by omega)]; exact a5) (by rw [b2 _ _ (by omega)]; exact a6) lohi
  -- up to what the HEAD tells
  have st : c164 f 93 u' rp rk (S, G, m) = c164_82 f f 93 u' 0 (S, G2, m) := by
    have e26 := k_26 (f := f) (m := m) (g := qK s p) (T := qWm s.1.length (qRd s.2.2.2.2.1) s.1.length) (by omega) (by omega) h16 hP.1 hP.2.1 hP.2.2.1.1 hP.2.2.2.2.2.2.2.1.1
    have gr : G (q + 8) p = ((qK s p : Nat) : Int) := hP.2.2.2.2.2.2.2.1.1 p hpn
    have iq : cq_is 3 14 q (S, G, m) = some () := if_pos hP.1.1
    have i83 : cq_is 9 14 83 (S, G, m) = some () := if_pos (s83 hs)
    unfold c164
    rw [o_gr (s93 hs) h931, Option.bind_some, Option.bind_some, o_gr hP.1.1 hP.2.1.2.2.2.2.2.2.2.1, Option.bind_some, o_gi hR.1.1, Option.bind_some, e0, hhd, o_a hP.1.2.2.2.2.2.2.2.2.1 (by omega), Option.bind_some, gr, iq, Option.bind_some, e26, Option.bind_some, o_gr (y := 83) (s93 hs) (p93_0 hp), Option.bind_some, i83, Option.bind_some, a1, Option.bind_some]
    exact b1
  have hI2 : cIt G2 u' K ru.2.2.1 ru.2.2.2.1 := hI.fx hu8 (fun a j y => z2 a j (by omega))
  have needs : ∀ v : Nat → Int, qMk ru.2.2.2.1 (-1) v ru.2.2.2.1.length = some as → ∀ c', c' < ru.2.2.2.1.length → ∀ x : Nat, ru.2.2.2.1.getD c' [] = [(2, (x : Int))] → v x = as.getD c' 0 := fun v hv c' hc' x hx => by
    have := qMk_get _ _ hv c' hc'
    rw [hx] at this
    have e : qEv v [(2, (x : Int))] = some (v x) := rfl
    rw [e] at this
    injection this
  have none_ok : (∀ v : Nat → Int, ¬ ∀ c', c' < ru.2.2.2.1.length → ∀ x : Nat, ru.2.2.2.1.getD c' [] = [(2, (x : Int))] → v x = as.getD c' 0) → ∀ w, ¬ (isW ru.2.2.2.2.2 ru.2.2.2.2.1.length M (qOp (qK s) (qK s p : Int) rk) w ∧ qMk ru.2.2.2.1 (-1) (vF w) ru.2.2.2.1.length = some as) := fun hn w hw => hn (vF w) (needs (vF w) hw.2)
  have key := k_164f (f := f) (m := m) (u := u') (K := K) (g := ru.2.2.1) (I := ru.2.2.2.1) (as := as) (nv := ru.2.2.2.2.1.length) (by omega) hs hnv hn4 (fun c hc => i2 _ (by rw [getD_e hc]; exact List.getElem_mem hc)) (by omega) hav ru.2.2.2.1.length 0 f G2 0 (fun _ => 0) (by omega) (by omega) hE2.wy hI2 (fun c hc => by rw [z2 _ _ (by omega)]; exact hgv c hc) l2 (fun v _ j hj => by rw [Nat.zero_testBit] at hj; cases hj)
  rcases key with ⟨k1, k2⟩ | ⟨G3, b', vl', k1, k2, k3⟩
  · exact ⟨0, G2, st.trans k1, b3, fun b j y _ _ _ => z2 b j y, .inl ⟨rfl, none_ok k2, fun k => z2 _ _ (by omega)⟩⟩
  · have z3 : ∀ b j, ¬ (83 ≤ b ∧ b ≤ 92) → G3 b j = G b j := fun b j y => by rw [k1 b j (by omega) (by omega), z2 b j y]
    rcases k3 with ⟨k3, k4, k5⟩ | ⟨k3, k4⟩
    · have hE3 := we G3 0 (fun _ => 0) (hiR ru.2.2.2.2.2 (mbR s p) rk) k2 (fun a j y => z3 a j (by omega)) (by rw [k1 _ _ (by omega) (by omega), b2 _ _ (by omega)]; exact a4) (by rw [k1 _ _ (by omega) (by omega), b2 _ _ (by omega)]; exact a5) (by rw [k1 _ _ (by omega) (by omega), b2 _ _ (by omega)]; exact a6) (fun l hl => by rw [k1 _ _ (by omega) (by omega), k1 _ _ (by omega) (by omega)]; exact lohi l hl)
      obtain ⟨V, k, Bf, x1, x2, x3, x4, x5, x6, _⟩ := ways_start hE3 (by rw [k1 _ _ (by omega) (by omega), b2 _ _ (by omega)]; exact a7) (by rw [k1 _ _ (by omega) (by omega), b2 _ _ (by omega)]; exact a8) k4 w8 hsf hnd hpB
      obtain ⟨_, x8⟩ := x6 rfl
      have hx203 : ∀ p, p < s.1.length → 203 < xr p := fun p hp => (hM.2.2.2.2 p hp).2.1.1
      obtain ⟨G4, fd, r1, r2, r3, r4⟩ := k_164n (f := f) (m := m) (I := ru.2.2.2.1) (g := ru.2.2.1) (as := as) hf hrp hx203 hn4 i1 hnv (by omega) x4 V [] k 0 f G3 0 hE3 x3 x1 (by omega) (by omega) (hI.fx hu8 (fun a j y => z3 a j (by omega))) (by rw [z3 _ _ (by omega)]; exact h3) (by rw [z3 _ _ (by omega)]; exact h6) (fun c hc => by rw [z3 _ _ (by omega)]; exact hgv c hc) (.inl ⟨rfl, fun v hv => by cases hv⟩)
      rw [List.nil_append] at r4
      have r1' : c164_138 f f 93 u' 0 0 (S, G3, m) = c164_220 f 93 u' fd (S, G4, m) := r1
      have z4 : ∀ b j, ¬ (83 ≤ b ∧ b ≤ 92) → b ≠ 103 → b ≠ 106 → G4 b j = G b j := fun b j y1 y2 y3 => by rw [r2 b j (by omega) (by omega) (by omega) y2 y3, z3 b j y1]
      have st4 := (st.trans k3).trans r1'
      -- WAYS of the rule and those that were found
      have agr : ∀ v : Nat → Int, qMk ru.2.2.2.1 (-1) (vF (vec ru.2.2.2.2.1.length v)) ru.2.2.2.1.length = qMk ru.2.2.2.1 (-1) v ru.2.2.2.1.length := fun v => qMk_xt (fun k hk hg => (i1 k hk hg).1) (fun k hk => vec_vF hk) _ (Nat.le_refl _)
      have toW : ∀ v ∈ V, isW ru.2.2.2.2.2 ru.2.2.2.2.1.length M (qOp (qK s) (qK s p : Int) rk) (vec ru.2.2.2.2.1.length v) := fun v hv => by
        obtain ⟨y1, y2⟩ := lit.mp (x5 v hv).2
        have ev : ∀ k, k < ru.2.2.2.2.1.length → v k = vF (vec ru.2.2.2.2.1.length v) k := fun k hk => (vec_vF hk).symm
        refine ⟨vec_len, fun y hy h1 => ?_, sNC_xt (fun y hy => (w9 y hy).1) ev y2⟩
        obtain ⟨w, u1, u2, u3⟩ := y1 y hy h1
        refine ⟨w, u1, u2, sTs_xt ?_ ev u3⟩
        rcases (w9 y hy).1 with ⟨_, _, _, _, _, z⟩ | ⟨z, _⟩
        · exact z
        · omega
      have toV : ∀ w, isW ru.2.2.2.2.2 ru.2.2.2.2.1.length M (qOp (qK s) (qK s p : Int) rk) w → qMk ru.2.2.2.1 (-1) (vF w) ru.2.2.2.1.length = some as → ∃ v ∈ V, vec ru.2.2.2.2.1.length v = w ∧ gvY ru.2.2.2.1 as v := fun w hw hq => by
        obtain ⟨v, v1, v2⟩ := x8 (vF w) (fun j hj => k5 (vF w) (needs (vF w) hq) j hj) (lit.mpr hw.2)
        have e : vec ru.2.2.2.2.1.length v = w := by
          rw [vec_ext (fun k hk => v2 k (x4 k hk)), vec_id hw.1]
        refine ⟨v, v1, e, ?_⟩
        unfold gvY
        rw [← agr, e]
        exact hq
      rcases r4 with ⟨rfl, q2⟩ | ⟨rfl, v, q2, q3, q4, q5⟩
      · refine ⟨0, G4, st4.trans ?_, r3, fun b j y1 y2 y3 _ => z4 b j y1 y2 y3, .inl ⟨rfl, fun w hw => ?_, fun k => z4 _ _ (by omega) (by omega) (by omega)⟩⟩
        · obtain ⟨fu, hfu⟩ : ∃ t, f = t + 1 := ⟨f - 1, by omega⟩
          have : ∀ t, c164_226 f (t + 1) 93 u' 0 0 0 (S, G4, m) = some (0, (S, G4, m)) := fun t => by
            show c164_226b (c164_226 f t) f _ _ _ _ _ _ = _
            unfold c164_226b
            rw [if_pos rfl]
            exact if_pos (.inl rfl)
          have := this fu
          rw [← hfu] at this
          exact this
        · obtain ⟨v, v1, _, v3⟩ := toV w hw.1 hw.2
          exact q2 v v1 v3
      · have hE4 := hE3.f3 hrp hx203 r3 (fun b j y1 y2 y3 y4 y5 _ _ => r2 b j y1 y2 y3 y4 y5)
        obtain ⟨G5, t1, t2, t3, t4, t5⟩ := k_164r (f := f) (m := m) (vl := fun k => G4 106 k) (by omega) hrp hx203 w8 hl8 ru.2.2.2.2.2.length 0 f G4 (by omega) (by omega) hE4 (fun k _ => rfl)
        have a0 : atN ru.2.2.2.2.2 0 = 0 := rfl
        rw [a0] at t1
        have t1' : c164_220 f 93 u' 1 (S, G4, m) = some (1, (S, G5, m)) := t1
        refine ⟨1, G5, st4.trans t1', t3, fun b j y1 y2 y3 y4 => by rw [t2 b j (by omega) (by omega) (by omega) y4, z4 b j y1 y2 y3], .inr ⟨rfl, vec ru.2.2.2.2.1.length v, ⟨toW v q2, by rw [agr]; exact q3⟩, fun x hx => ?_, fun k hk => by rw [t4 k (.inr hk), z4 _ _ (by omega) (by omega) (by omega)], fun l hl h1 => ?_⟩⟩
        · obtain ⟨w, y1, y2, y3⟩ := toV x hx.1 hx.2
          rw [← y2]
          exact q5 w y1 y3
        · have q := t5 l (Nat.zero_le _) hl h1
          have ev : ∀ k, k < ru.2.2.2.2.1.length → G4 106 k = vF (vec ru.2.2.2.2.1.length v) k := fun k hk => by rw [q4 k hk, vec_vF hk]
          have hT : ∀ y ∈ (ru.2.2.2.2.2.getD l dLt).2.2.2.1, wT1 ru.2.2.2.2.1.length y := by
            rcases (w9 _ (lt_in hl)).1 with ⟨_, _, _, _, _, z⟩ | ⟨z, _⟩
            · exact z
            · omega
          have eqj : ∀ j, j < (M (ru.2.2.2.2.2.getD l dLt).2.1.toNat).length → (((0 ≤ ((M (ru.2.2.2.2.2.getD l dLt).2.1.toNat).getD j dRw).2 ∧ ((M (ru.2.2.2.2.2.getD l dLt).2.1.toNat).getD j dRw).2 ≤ hiR ru.2.2.2.2.2 (mbR s p) rk l) ∧ sTs (fun k => G4 106 k) (ru.2.2.2.2.2.getD l dLt).2.2.2.1 ((M (ru.2.2.2.2.2.getD l dLt).2.1.toNat).getD j dRw).1) ↔ (qOp (qK s) (qK s p : Int) rk (ru.2.2.2.2.2.getD l dLt).2.1.toNat ((M (ru.2.2.2.2.2.getD l dLt).2.1.toNat).getD j dRw) ∧ sTs (vF (vec ru.2.2.2.2.1.length v)) (ru.2.2.2.2.2.getD l dLt).2.2.2.1 ((M (ru.2.2.2.2.2.getD l dLt).2.1.toNat).getD j dRw).1)) := fun j hj => by
            have o := opl hl h1 _ (get_in hj)
            constructor
            · rintro ⟨y1, y2⟩; exact ⟨o.mp y1, sTs_xt hT ev y2⟩
            · rintro ⟨y1, y2⟩; exact ⟨o.mpr y1, sTs_xt hT (fun k hk => (ev k hk).symm) y2⟩
          rcases q with ⟨j, j1, j2, j3, j4⟩ | ⟨j1, j2⟩
          · exact .inl ⟨j, j1, (eqj j j1).mp j2, fun i hi z => j3 i hi ((eqj i (by omega)).mpr z), j4⟩
          · exact .inr ⟨fun j hj z => j1 j hj ((eqj j hj).mpr z), j2⟩
    · exact ⟨0, G3, st.trans k3, k2, fun b j y _ _ _ => z3 b j y, .inl ⟨rfl, none_ok k4, fun k => z3 _ _ (by omega)⟩⟩
end
end
