/-! THE CLASS: reason: findWay() -/
section
variable {f u x l nv np a fa fn i p mb : Nat} {S : Nat → Nat × Nat × Nat} {G G' : xG_} {m : Nat × Nat} {K : pCd} {Ls : List pLt} {pl : List Nat} {br rk : Int} {qn xp cp : Nat → Nat} {RR : Nat → List pRw} {lO hI : Nat → Int} {vl : Nat → Int} {I : List pCd} {g : Int × Int × Int} {as : List Int}
theorem kd_at (hR : cRq S G u K Ls) (hl : l < Ls.length) : G (u + 2) l = 15 ↔ (Ls.getD l dLt).1 = 1 := by
  obtain ⟨_, _, _, hls, _⟩ := hR
  rcases hls.2.2 l hl with ⟨z1, z2, _⟩ | ⟨z1, z2, z3, _⟩
  · have z1' : (Ls.getD l dLt).1 = 1 ∨ (Ls.getD l dLt).1 = 2 := z1
    have z2' : G (u + 2) l = (if (Ls.getD l dLt).1 = 1 then 15 else 9) := z2
    rw [z2']
    by_cases c : (Ls.getD l dLt).1 = 1
    · rw [if_pos c]; exact ⟨fun _ => c, fun _ => rfl⟩
    · rw [if_neg c]; exact ⟨fun z => absurd z (by decide), fun z => absurd z c⟩
  · have z1' : (Ls.getD l dLt).1 = 3 := z1
    have z2' : G (u + 2) l = (Ls.getD l dLt).2.1 := z2
    have z3' : (Ls.getD l dLt).2.1 = 61 ∨ (Ls.getD l dLt).2.1 = 257 ∨ (Ls.getD l dLt).2.1 = 60 ∨ (Ls.getD l dLt).2.1 = 258 ∨ (Ls.getD l dLt).2.1 = 62 ∨ (Ls.getD l dLt).2.1 = 259 := z3
    rw [z2', z1']
    omega
def rsF (RR : Nat → List pRw) (lO hI : Nat → Int) (vl : Nat → Int) (Ls : List pLt) (l : Nat) (v : Int) : Prop := fst1 (fun j => (lO l ≤ ((RR (Ls.getD l dLt).2.1.toNat).getD j dRw).2 ∧ ((RR (Ls.getD l dLt).2.1.toNat).getD j dRw).2 ≤ hI l) ∧ sTs vl (Ls.getD l dLt).2.2.2.1 ((RR (Ls.getD l dLt).2.1.toNat).getD j dRw).1) (RR (Ls.getD l dLt).2.1.toNat).length v
theorem atN_m {l l' : Nat} (h : l ≤ l') : atN Ls l ≤ atN Ls l' := by
  unfold atN
  have : (Ls.take l).filter (fun y => decide (y.1 = 1)) = ((Ls.take l').take l).filter (fun y => decide (y.1 = 1)) := by rw [List.take_take, Nat.min_eq_left h]
  rw [this]
  exact ((List.take_sublist _ _).filter _).length_le
/-- the rows of a WAY -/
theorem k_164r (hf : 700 < f) (hfa : 203 < fa) (hx : ∀ p, p < np → 203 < xp p) (hat : pAtoms Ls ≤ 3) (hl8 : Ls.length ≤ 8) : ∀ (d l fu : Nat) (G : xG_), l + d = Ls.length → d < fu → cWE S G u K Ls pl fa fn np nv a br qn xp cp RR lO hI → (∀ k, k < 8 → G 106 k = vl k) → ∃ G', c164_226 f fu 93 u 1 (atN Ls l : Int) (l : Int) (S, G, m) = some (1, (S, G', m)) ∧ (∀ b j, b ≠ 84 → ¬ (87 ≤ b ∧ b ≤ 92) → ¬ (b = 83 ∧ (j = 6 ∨ j = 7)) → b ≠ 107 → G' b j = G b j) ∧ cPs G' ∧ (∀ k, k < atN Ls l ∨ pAtoms Ls ≤ k → G' 107 k = G 107 k) ∧ ∀ l', l ≤ l' → l' < Ls.length → (Ls.getD l' dLt).1 = 1 → rsF RR lO hI vl Ls l' (G' 107 (atN Ls l')) := by
  intro d
  induction d with
  | zero =>
    intro l fu G e1 e2 h hv
    obtain ⟨fu, rfl⟩ : ∃ t, fu = t + 1 := ⟨fu - 1, by omega⟩
    refine ⟨G, ?_, fun _ _ _ _ _ _ => rfl, h.1.2.1, fun _ _ => rfl, fun l' y1 y2 => by omega⟩
    show c164_226b (c164_226 f fu) f _ _ _ _ _ _ = _
    unfold c164_226b
    rw [if_neg (by decide), o_gi h.2.1.1.1, Option.bind_some, h.2.1.2.2.2.1.1, if_pos (by omega)]
    exact if_pos (.inr rfl)
  | succ d ih =>
    intro l fu G e1 e2 h hv
    obtain ⟨fu, rfl⟩ : ∃ t, fu = t + 1 := ⟨fu - 1, by omega⟩
    have hl : l < Ls.length := by omega
    have ei : xwr ((l : Int) + 1) = ((l + 1 : Nat) : Int) := by rw [xwr_g _ (by omega) (by omega)]; omega
    have us := h.2.1.1
    have e0 := Eq.refl (c164_226 f (fu + 1) 93 u 1 (atN Ls l : Int) (l : Int) (S, G, m))
    conv at e0 => { rhs; change c164_226b (c164_226 f fu) f 93 u 1 (atN Ls l : Int) (l : Int) (S, G, m); unfold c164_226b }
    rw [if_neg (by decide), o_gi us.1, Option.bind_some, h.2.1.2.2.2.1.1, if_neg (by omega), o_gr us.1 h.2.1.2.1.2.1, Option.bind_some, o_a us.2.2.1 (by omega), Option.bind_some] at e0
    have ats := atN_s hl
    by_cases c : (Ls.getD l dLt).1 = 1
    · rw [if_pos c] at ats
      have le1 : atN Ls (l + 1) ≤ pAtoms Ls := by
        have := atN_m (Ls := Ls) (show l + 1 ≤ Ls.length by omega)
        have e : atN Ls Ls.length = pAtoms Ls := by unfold atN pAtoms; rw [List.take_length]
        omega
      have kd := (kd_at h.2.1 hl).mpr c
      obtain ⟨v, G1, g1, g2, g3, g4⟩ := k_143 (f := f) (m := m) (vl := vl) (by omega) h hfa hx hl (by omega) (by omega) hv
      have i1 : cq_is 9 14 83 (S, G, m) = some () := if_pos (s83 h.1.1)
      have es : cq_s 3 107 (atN Ls l : Int) v (S, G1, m) = some (S, xup2 G1 107 (atN Ls l) v, m) := o_s (s107 h.1.1) (by omega)
      have wa : xwr ((atN Ls l : Int) + 1) = (atN Ls (l + 1) : Int) := by rw [xwr_g _ (by omega) (by omega), ats]; omega
      unfold c164_275 at e0
      rw [kd, if_neg (fun z => z rfl), o_gr (y := 107) (s93 h.1.1) (p93_17 h.1.2.1), Option.bind_some, o_gr (y := 83) (s93 h.1.1) (p93_0 h.1.2.1), Option.bind_some, o_gr (y := 106) (s93 h.1.1) (p93_12 h.1.2.1), Option.bind_some, i1, Option.bind_some, g1, Option.bind_some, es, Option.bind_some, wa, ei] at e0
      have z2 : ∀ b j, b ≠ 84 → ¬ (87 ≤ b ∧ b ≤ 92) → ¬ (b = 83 ∧ (j = 6 ∨ j = 7)) → b ≠ 107 → xup2 G1 107 (atN Ls l) v b j = G b j := fun b j y1 y2 y3 y4 => by rw [xup2_n (by omega), g2 b j y1 y2 y3]
      have p2 : cPs (xup2 G1 107 (atN Ls l) v) := g3.ge (fun b j hz => xup2_n (by
        rcases hz with z | z | z | z | z | z | z | ⟨z, z1, z2, k, z3⟩ | z | z | z | ⟨k, z1, z2, z3⟩ <;> omega))
      obtain ⟨G', r1, r2, r3, r4, r5⟩ := ih (l + 1) fu (xup2 G1 107 (atN Ls l) v) (by omega) (by omega) (h.f3 hfa hx p2 (fun b j y1 y2 y3 _ _ y6 _ => z2 b j y1 y2 y3 y6)) (fun k hk => by rw [z2 _ _ (by omega) (by omega) (by omega) (by omega)]; exact hv k hk)
      refine ⟨G', e0.trans r1, fun b j y1 y2 y3 y4 => by rw [r2 b j y1 y2 y3 y4, z2 b j y1 y2 y3 y4], r3, fun k hk => by rw [r4 k (by omega), xup2_n (by omega), g2 _ _ (by omega) (by omega) (by omega)], fun l' y1 y2 y3 => ?_⟩
      by_cases el : l' = l
      · subst el
        rw [r4 _ (by omega), xup2_s]
        exact g4
      · exact r5 l' (by omega) y2 y3
    · rw [if_neg c] at ats
      have kd : ¬ G (u + 2) l = 15 := fun z => c ((kd_at h.2.1 hl).mp z)
      unfold c164_275 at e0
      rw [if_pos kd, ei] at e0
      obtain ⟨G', r1, r2, r3, r4, r5⟩ := ih (l + 1) fu G (by omega) (by omega) h hv
      rw [ats, Nat.add_zero] at r1 r4
      refine ⟨G', e0.trans r1, r2, r3, r4, fun l' y1 y2 y3 => ?_⟩
      by_cases el : l' = l
      · subst el; exact absurd y3 c
      · exact r5 l' (by omega) y2 y3
/-- which RANKS rows may have -/
def hiR (Ls : List pLt) (mb : Nat) (rk : Int) (l : Nat) : Int := if (Ls.getD l dLt).1 = 1 ∧ mb.testBit (Ls.getD l dLt).2.1.toNat = true then rk - 1 else 1700
theorem k_164h (hf : 20 < f) (hs : cSs S) (hmb : mb < 2 ^ 16) (hrk : 0 ≤ rk ∧ rk ≤ 2000) (hw : ∀ l, l < Ls.length → (Ls.getD l dLt).1 = 1 → 0 ≤ (Ls.getD l dLt).2.1 ∧ (Ls.getD l dLt).2.1 < 16) : ∀ (d l fu : Nat) (G : xG_), l + d = Ls.length → d < fu → cPs G → cRq S G u K Ls → ∃ G', c164_34 f fu 93 u rk (mb : Int) (l : Int) (S, G, m) = c164_82 f f 93 u 0 (S, G', m) ∧ (∀ b j, b ≠ 86 → G' b j = G b j) ∧ cPs G' ∧ ∀ j, j < 8 → G' 86 j = if l ≤ j ∧ j < Ls.length then hiR Ls mb rk j else G 86 j := by
  intro d
  induction d with
  | zero =>
    intro l fu G e1 e2 hp hR
    obtain ⟨fu, rfl⟩ : ∃ t, fu = t + 1 := ⟨fu - 1, by omega⟩
    refine ⟨G, ?_, fun _ _ _ => rfl, hp, fun j hj => by rw [if_neg (by omega)]⟩
    show c164_34b (c164_34 f fu) f _ _ _ _ _ _ = _
    unfold c164_34b
    rw [o_gi hR.1.1, Option.bind_some, hR.2.2.2.1.1, if_pos (by omega)]
  | succ d ih =>
    intro l fu G e1 e2 hp hR
    obtain ⟨fu, rfl⟩ : ∃ t, fu = t + 1 := ⟨fu - 1, by omega⟩
    have hl : l < Ls.length := by omega
    have hl8 := hR.2.2.2.1.2.1
    have hu := hR.2.2.2.2.1
    have ei : xwr ((l : Int) + 1) = ((l + 1 : Nat) : Int) := by rw [xwr_g _ (by omega) (by omega)]; omega
    obtain ⟨w, w1, w2, w3⟩ := k_152 (f := f) (m := m) hR hl hmb (hw l hl)
    have st : c164_34 f (fu + 1) 93 u rk (mb : Int) (l : Int) (S, G, m) = c164_34 f fu 93 u rk (mb : Int) ((l + 1 : Nat) : Int) (S, xup2 G 86 l (hiR Ls mb rk l), m) := by
      show c164_34b (c164_34 f fu) f _ _ _ _ _ _ = _
      unfold c164_34b c164_72
      rw [o_gi hR.1.1, Option.bind_some, hR.2.2.2.1.1, if_neg (by omega), o_gr (y := 83) (s93 hs) (p93_0 hp), Option.bind_some, o_gr (y := 86) (s83 hs) (p83_2 hp), Option.bind_some, w1, Option.bind_some]
      unfold hiR
      unfold ownL at w3
      by_cases c : w = 0
      · rw [if_pos c, if_neg (fun z => by have := w3.mpr z; omega), o_s (s86 hs) (by omega), Option.bind_some, ei]
      · rw [if_neg c, if_pos (w3.mp (by omega)), xwr_g (rk - 1) (by omega) (by omega), o_s (s86 hs) (by omega), Option.bind_some, ei]
    have z1 : ∀ b j, b ≠ 86 → xup2 G 86 l (hiR Ls mb rk l) b j = G b j := fun b j y => xup2_n (by omega)
    obtain ⟨G', r1, r2, r3, r4⟩ := ih (l + 1) fu (xup2 G 86 l (hiR Ls mb rk l)) (by omega) (by omega) (hp.ge (fun b j hz => z1 b j (by
      rcases hz with z | z | z | z | z | z | z | ⟨z, z1, z2, k, z3⟩ | z | z | z | ⟨k, z1, z2, z3⟩ <;> omega))) (hR.fx (fun b j y => z1 b j (by omega)))
    refine ⟨G', st.trans r1, fun b j y => by rw [r2 b j y, z1 b j y], r3, fun j hj => ?_⟩
    rw [r4 j hj]
    by_cases ej : j = l
    · subst ej
      rw [if_neg (by omega), if_pos (by omega), xup2_s]
    · rw [xup2_n (by omega)]
      by_cases c : l + 1 ≤ j ∧ j < Ls.length
      · rw [if_pos c, if_pos (by omega)]
      · rw [if_neg c, if_neg (by omega)]
/-- VARIABLES that the HEAD tells -/
theorem k_164f (hf : 20 < f) (hs : cSs S) (hnv : nv ≤ 8) (hnI : I.length ≤ 4) (hwI : ∀ c, c < I.length → wC nv (I.getD c [])) (has : as.length = I.length) (hav : ∀ c, c < as.length → vOk (as.getD c 0)) : ∀ (d c fu : Nat) (G : xG_) (b : Nat) (vl : Nat → Int), c + d = I.length → d < fu → cWy S G u K → cIt G u K g I → (∀ c, c < as.length → G 105 c = as.getD c 0) → lvE G 0 b vl → (∀ v : Nat → Int, (∀ c', c' < c → ∀ x : Nat, I.getD c' [] = [(2, (x : Int))] → v x = as.getD c' 0) → ∀ j, b.testBit j = true → v j = vl j) →
    (c164_82 f fu 93 u (c : Int) (S, G, m) = some (0, (S, G, m)) ∧ ∀ v : Nat → Int, ¬ ∀ c', c' < I.length → ∀ x : Nat, I.getD c' [] = [(2, (x : Int))] → v x = as.getD c' 0) ∨
    (∃ G' b' vl' , (∀ a j, a ≠ 84 → ¬ (a = 87 ∧ j = 0) → G' a j = G a j) ∧ cPs G' ∧ ((c164_82 f fu 93 u (c : Int) (S, G, m) = c164_138 f f 93 u 0 0 (S, G', m) ∧ lvE G' 0 b' vl' ∧ ∀ v : Nat → Int, (∀ c', c' < I.length → ∀ x : Nat, I.getD c' [] = [(2, (x : Int))] → v x = as.getD c' 0) → ∀ j, b'.testBit j = true → v j = vl' j) ∨ (c164_82 f fu 93 u (c : Int) (S, G, m) = some (0, (S, G', m)) ∧ ∀ v : Nat → Int, ¬ ∀ c', c' < I.length → ∀ x : Nat, I.getD c' [] = [(2, (x : Int))] → v x = as.getD c' 0))) := by
  intro d
  induction d with
  | zero =>
    intro c fu G b vl e1 e2 h hI hgv hl hinv
    obtain ⟨fu, rfl⟩ : ∃ t, fu = t + 1 := ⟨fu - 1, by omega⟩
    refine .inr ⟨G, b, vl, fun _ _ _ _ => rfl, h.2.1, .inl ⟨?_, hl, fun v hv => hinv v (fun c' hc' => hv c' (by omega))⟩⟩
    show c164_82b (c164_82 f fu) f _ _ _ _ = _
    unfold c164_82b
    rw [o_gi h.2.2.2.2.1.1, Option.bind_some, hI.1, if_pos (by omega)]
  | succ d ih =>
    intro c fu G b vl e1 e2 h hI hgv hl hinv
    obtain ⟨fu, rfl⟩ : ∃ t, fu = t + 1 := ⟨fu - 1, by omega⟩
    have hc : c < I.length := by omega
    have hu := h.2.2.2.1
    have ei : xwr ((c : Int) + 1) = ((c + 1 : Nat) : Int) := by rw [xwr_g _ (by omega) (by omega)]; omega
    have is1 : cq_is 6 20 u (S, G, m) = some () := if_pos h.2.2.2.2.1.1
    have i83 : cq_is 9 14 83 (S, G, m) = some () := if_pos (s83 hs)
    have e0 := Eq.refl (c164_82 f (fu + 1) 93 u (c : Int) (S, G, m))
    conv at e0 => { rhs; change c164_82b (c164_82 f fu) f 93 u (c : Int) (S, G, m); unfold c164_82b }
    rw [o_gi h.2.2.2.2.1.1, Option.bind_some, hI.1, if_neg (by omega), is1, Option.bind_some] at e0
    rcases k_91w (f := f) (m := m) (s := c) h (by omega) (hI.2.2.1 c hc) (hwI c hc) hnv with ⟨x, x1, x2, x3⟩ | ⟨x1, x2⟩
    · obtain ⟨v, G1, g1, g2, g3⟩ := k_131 (f := f) (m := m) (w := as.getD c 0) hs h.2.1 (by omega : x < 8) hl (hav c (by omega))
      have ea : cq_a 4 105 (c : Int) (S, G, m) = some (as.getD c 0) := by rw [← hgv c (by omega)]; exact o_a (s105 hs) (by omega)
      have p1 : cPs G1 := h.2.1.ge (fun b j hz => g2 b j (by
        rcases hz with z | z | z | z | z | z | z | ⟨z, z1, z2, k, z3⟩ | z | z | z | ⟨k, z1, z2, z3⟩ <;> omega) (by
        rcases hz with z | z | z | z | z | z | z | ⟨z, z1, z2, k, z3⟩ | z | z | z | ⟨k, z1, z2, z3⟩ <;> omega))
      rw [x3, Option.bind_some, if_neg (show ¬ ((x : Nat) : Int) = -1 by omega), o_gr (y := 83) (s93 hs) (p93_0 h.2.1), Option.bind_some, o_gr (y := 105) (s93 hs) (p93_11 h.2.1), Option.bind_some, ea, Option.bind_some, i83, Option.bind_some, g1, Option.bind_some] at e0
      rcases g3 with ⟨rfl, g4, g5⟩ | ⟨rfl, vl', g4, g5, g6⟩
      · rw [if_neg (fun z => z rfl)] at e0
        refine .inr ⟨G1, b, vl, fun a j y1 y2 => g2 a j (by omega) y2, p1, .inr ⟨e0, fun v hv => ?_⟩⟩
        have q1 := hinv v (fun c' hc' => hv c' (by omega)) x g4
        have q2 := hv c hc x x2
        rw [q2] at q1
        exact g5 q1.symm
      · unfold c164_126 at e0
        rw [if_pos (show ¬ (1 : Int) = 0 by decide), ei] at e0
        have zf : ∀ a j, 278 < a → G1 a j = G a j := fun a j y => g2 a j (by omega) (by omega)
        have h1 : cWy S G1 u K := by
          obtain ⟨a1, a2, a3, a4, a5, a6, ⟨b1, b2, b3, b4, b5⟩, a8⟩ := h
          refine ⟨a1, p1, by rw [g2 _ _ (by omega) (by omega)]; exact a3, a4, a5, ?_, ⟨by rw [zf _ _ (by omega)]; exact b1, by rw [zf _ _ (by omega)]; exact b2, b3, b4, fun k hk => by rw [zf _ _ (by omega), zf _ _ (by omega)]; exact b5 k hk⟩, a8⟩
          unfold cRuP at a6 ⊢
          simp only [zf u _ a4]
          exact a6
        have key := ih (c + 1) fu G1 (b ||| 2 ^ x) vl' (by omega) (by omega) h1 (hI.fx hu zf) (fun c' hc' => by rw [g2 _ _ (by omega) (by omega)]; exact hgv c' hc') g4 (fun v hv j hj => by
          by_cases ej : j = x
          · rw [ej, g5]; exact hv c (by omega) x x2
          · rw [Nat.testBit_or, Nat.testBit_two_pow, decide_eq_false (fun e => ej e.symm), Bool.or_false] at hj
            rw [g6 j hj]
            exact hinv v (fun c' hc' => hv c' (by omega)) j hj)
        rcases key with ⟨k1, k2⟩ | ⟨G2, b2, vl2, k1, k2, k3⟩
        · exact .inr ⟨G1, b, vl, fun a j y1 y2 => g2 a j (by omega) y2, p1, .inr ⟨e0.trans k1, k2⟩⟩
        · refine .inr ⟨G2, b2, vl2, fun a j y1 y2 => by rw [k1 a j y1 y2, g2 a j (by omega) y2], k2, ?_⟩
          rcases k3 with ⟨k3, k4⟩ | ⟨k3, k4⟩
          · exact .inl ⟨e0.trans k3, k4⟩
          · exact .inr ⟨e0.trans k3, k4⟩
    · unfold c164_126 at e0
      rw [x2, Option.bind_some, if_pos rfl, ei] at e0
      have key := ih (c + 1) fu G b vl (by omega) (by omega) h hI hgv hl (fun v hv => hinv v (fun c' hc' => hv c' (by omega)))
      rcases key with ⟨k1, k2⟩ | ⟨G2, b2, vl2, k1, k2, k3⟩
      · exact .inl ⟨e0.trans k1, k2⟩
      · refine .inr ⟨G2, b2, vl2, k1, k2, ?_⟩
        rcases k3 with ⟨k3, k4⟩ | ⟨k3, k4⟩
        · exact .inl ⟨e0.trans k3, k4⟩
        · exact .inr ⟨e0.trans k3, k4⟩
end
