/-! THE CLASS: reason: the least WAY that gives a row -/
section
variable {f u np nv a fa fn : Nat} {S : Nat → Nat × Nat × Nat} {G G' : xG_} {m : Nat × Nat} {K : pCd} {Ls : List pLt} {pl : List Nat} {br : Int} {qn xp cp : Nat → Nat} {R : Nat → List pRw} {lo hi : Nat → Int} {Bf : Nat} {I : List pCd} {g : Int × Int × Int} {as : List Int} {V : List (Nat → Int)} {k : Nat}
theorem wSt8.g9 (h : wSt8 Ls pl a br R lo hi G Bf V k) (hf : ∀ a j, 83 ≤ a → a ≤ 91 → G' a j = G a j) : wSt8 Ls pl a br R lo hi G' Bf V k := by
  rcases h with ⟨st, b, vl, V1, k1, V2, k2, a1, a2, a3, a4, a5, a6, a7, a8, a9, a10⟩ | ⟨n, B, a1, a2, a3, a4, a5⟩
  · exact .inl ⟨st, b, vl, V1, k1, V2, k2, a1, by rw [hf _ _ (by omega) (by omega)]; exact a2, by rw [hf _ _ (by omega) (by omega)]; exact a3, a4.ge (hf _ _ (by omega) (by omega)) (fun j _ => hf _ _ (by omega) (by omega)), a5, a6, a7, a8.ge _ _ _ _ (fun a j _ _ _ => hf _ _ (by omega) (by omega)) (hf _ _ (by omega) (by omega)) (fun j _ => hf _ _ (by omega) (by omega)), a9, a10⟩
  · exact .inr ⟨n, B, a1, by rw [hf _ _ (by omega) (by omega)]; exact a2, by rw [hf _ _ (by omega) (by omega)]; exact a3, a4, a5.ge _ _ _ _ (fun a j _ _ _ => hf _ _ (by omega) (by omega)) (hf _ _ (by omega) (by omega)) (fun j _ => hf _ _ (by omega) (by omega))⟩
/-- WAYS over a moment: rows 92, 103, 106, 107 and what next() changes don't matter -/
theorem cWE.f3 (h : cWE S G u K Ls pl fa fn np nv a br qn xp cp R lo hi) (hfa : 203 < fa) (hx : ∀ p, p < np → 203 < xp p) (hp : cPs G') (hf : ∀ a j, a ≠ 84 → ¬ (87 ≤ a ∧ a ≤ 92) → ¬ (a = 83 ∧ (j = 6 ∨ j = 7)) → a ≠ 103 → a ≠ 106 → a ≠ 107 → ¬ (a = 93 ∧ j = 16) → G' a j = G a j) : cWE S G' u K Ls pl fa fn np nv a br qn xp cp R lo hi := by
  obtain ⟨⟨a1, a2, a3, a4, a5, a6, a7, a8⟩, b1, c1, ⟨d1, d2⟩, e1, f1⟩ := h
  have hu := b1.2.2.2.2.1
  have z : ∀ a j, 107 < a → G' a j = G a j := fun a j y => hf a j (by omega) (by omega) (by omega) (by omega) (by omega) (by omega) (by omega)
  have z8 : ∀ a j, (a = 83 ∧ j < 6 ∨ a = 85 ∨ a = 86) → G' a j = G a j := fun a j y => hf a j (by omega) (by omega) (by omega) (by omega) (by omega) (by omega) (by omega)
  refine ⟨⟨a1, hp, by rw [z8 _ _ (by omega)]; exact a3, by rw [z8 _ _ (by omega)]; exact a4, by rw [z8 _ _ (by omega)]; exact a5, a6, a7, a8⟩, b1.fx (fun a j y => z a j (by omega)), c1, ⟨d1, fun k hk => ?_⟩, fun p hp => ?_, fun l hl => ?_⟩
  · rw [z _ _ (by omega), z _ _ (by omega)]; exact d2 k hk
  · obtain ⟨q1, q2, q3, q4⟩ := e1 p hp
    have := hx p hp
    exact ⟨by rw [z _ _ (by omega)]; exact q1, q2, q3.ge (fun _ _ _ => rfl) (fun j => z _ _ (by omega)) (fun j => z _ _ (by omega)) (fun j => z _ _ (by omega)), q4⟩
  · rw [z8 _ _ (by omega), z8 _ _ (by omega)]; exact f1 l hl
/-- a WAY that gives the row -/
def gvY (I : List pCd) (as : List Int) (v : Nat → Int) : Prop := qMk I (-1) v I.length = some as
/-- the best of those found -/
def bsI (G : xG_) (nv : Nat) (I : List pCd) (as : List Int) (W : List (Nat → Int)) (fd : Int) : Prop := (fd = 0 ∧ ∀ v ∈ W, ¬ gvY I as v) ∨ (fd = 1 ∧ ∃ v ∈ W, gvY I as v ∧ (∀ j, j < nv → G 106 j = v j) ∧ ∀ w ∈ W, gvY I as w → vCmp (vec nv v) (vec nv w) ≤ 0)
theorem vec_l2 {v w x : Nat → Int} (h1 : vCmp (vec nv v) (vec nv w) < 0) (h2 : vCmp (vec nv w) (vec nv x) ≤ 0) : vCmp (vec nv v) (vec nv x) ≤ 0 := by
  have l : ∀ y : Nat → Int, (vec nv y).length = nv := fun y => vec_len
  by_cases c : vCmp (vec nv w) (vec nv x) = 0
  · rw [← vCmp_eq ((l w).trans (l x).symm) c]; omega
  · have := vCmp_tr ((l v).trans (l w).symm) ((l w).trans (l x).symm) h1 (by omega)
    omega
theorem k_164n (hf : 100003010 < f) (hfa : 203 < fa) (hx : ∀ p, p < np → 203 < xp p) (hnI : I.length ≤ 4) (hwI : wIe nv I (-1)) (hnv : nv ≤ 8) (has : as.length = I.length) (hBf : ∀ j, j < nv → Bf.testBit j = true) : ∀ (V W : List (Nat → Int)) (k i fu : Nat) (G : xG_) (fd : Int), cWE S G u K Ls pl fa fn np nv a br qn xp cp R lo hi → wSt8 Ls pl a br R lo hi G Bf V k → k ≤ 100000000 → V.length < fu → i + V.length < 10000000 → cIt G u K g I → G u 3 = -1 → G u 6 = (nv : Int) → (∀ c, c < as.length → G 105 c = as.getD c 0) → bsI G nv I as W fd →
    ∃ G' fd', c164_138 f fu 93 u fd (i : Int) (S, G, m) = c164_220 f 93 u fd' (S, G', m) ∧ (∀ b j, b ≠ 84 → ¬ (87 ≤ b ∧ b ≤ 92) → ¬ (b = 83 ∧ (j = 6 ∨ j = 7)) → b ≠ 103 → b ≠ 106 → G' b j = G b j) ∧ cPs G' ∧ bsI G' nv I as (W ++ V) fd' := by
  intro V
  induction V with
  | nil =>
    intro W k i fu G fd h hs hk hfu hii hI hg h6 hgv hb
    obtain ⟨fu, rfl⟩ : ∃ t, fu = t + 1 := ⟨fu - 1, by omega⟩
    rcases k_next (m := m) hf h hs hk with ⟨G1, e1, e2, e3⟩ | ⟨G1, v, V', k', e1, e2, e3, _⟩
    · have i1 : cq_is 9 14 83 (S, G, m) = some () := if_pos (s83 h.1.1)
      refine ⟨G1, fd, ?_, fun b j y1 y2 y3 _ _ => e2 b j y1 y2 y3, (h.ge e2).1.2.1, ?_⟩
      · show c164_138b (c164_138 f fu) f _ _ _ _ _ = _
        unfold c164_138b
        rw [if_neg (by simp at hii; omega), o_gr (y := 83) (s93 h.1.1) (p93_0 h.1.2.1), Option.bind_some, i1, Option.bind_some, e1, Option.bind_some, if_pos rfl]
      · rw [List.append_nil]
        rcases hb with q | ⟨q1, v, q2, q3, q4, q5⟩
        · exact .inl q
        · exact .inr ⟨q1, v, q2, q3, fun j hj => by rw [e2 _ _ (by omega) (by omega) (by omega)]; exact q4 j hj, q5⟩
    · cases e3
  | cons v0 V ih =>
    intro W k i fu G fd h hs hk hfu hii hI hg h6 hgv hb
    rw [List.length_cons] at hfu hii
    obtain ⟨fu, rfl⟩ : ∃ t, fu = t + 1 := ⟨fu - 1, by omega⟩
    rcases k_next (m := m) hf h hs hk with ⟨G1, e1, e2, e3⟩ | ⟨G1, v, V', k', e1, e2, e3, e4, e5, e6⟩
    · cases e3
    · injection e3 with q1 q2
      subst q1 q2
      have h1 := h.ge e2
      have hu := h.2.1.2.2.2.2.1
      have us := h.2.1.1.1
      have ei : xwr ((i : Int) + 1) = ((i + 1 : Nat) : Int) := by rw [xwr_g _ (by omega) (by omega)]; omega
      have hI1 : cIt G1 u K g I := hI.fx hu (fun b j y => e2 b j (by omega) (by omega) (by omega))
      have hV1 : ∀ c, c < I.length → (c : Int) ≠ -1 → cVl G1 (qVm (I.getD c [])) v0 := fun c hc hn j hj => e6 j (hBf j (qVm_in (hwI c hc hn).1.1 j hj))
      obtain ⟨b, G2, g1, g2, g3⟩ := k_142h (f := f) (m := m) (vl := v0) (by omega) hnI hwI h1.wy hI1 (by rw [e2 _ _ (by omega) (by omega) (by omega)]; exact hg) hV1
      have ps2 : cPs G2 := h1.1.2.1.ge (fun b j hz => g2 b j (by
        rcases hz with z | z | z | z | z | z | z | ⟨z, z1, z2, k, z3⟩ | z | z | z | ⟨k, z1, z2, z3⟩ <;> omega) (by
        rcases hz with z | z | z | z | z | z | z | ⟨z, z1, z2, k, z3⟩ | z | z | z | ⟨k, z1, z2, z3⟩ <;> omega))
      have z2 : ∀ b j, b ≠ 84 → ¬ (87 ≤ b ∧ b ≤ 92) → ¬ (b = 83 ∧ (j = 6 ∨ j = 7)) → b ≠ 103 → G2 b j = G b j := fun b j y1 y2 y3 y4 => by rw [g2 b j (by omega) y4, e2 b j y1 y2 y3]
      have i1 : cq_is 9 14 83 (S, G, m) = some () := if_pos (s83 h.1.1)
      have i2 : cq_is 9 14 83 (S, G1, m) = some () := if_pos (s83 h.1.1)
      have i3 : cq_is 10 18 93 (S, G2, m) = some () := if_pos (s93 h.1.1)
      have e0 := Eq.refl (c164_138 f (fu + 1) 93 u fd (i : Int) (S, G, m))
      conv at e0 => { rhs; change c164_138b (c164_138 f fu) f 93 u fd (i : Int) (S, G, m); unfold c164_138b }
      rw [if_neg (by omega), o_gr (y := 83) (s93 h.1.1) (p93_0 h.1.2.1), Option.bind_some, i1, Option.bind_some, e1, Option.bind_some, if_neg (show ¬ (1 : Int) = 0 by decide), o_gr (y := 83) (s93 h.1.1) (p93_0 h1.1.2.1), Option.bind_some, o_gr (y := 103) (s93 h.1.1) (p93_9 h1.1.2.1), Option.bind_some, i2, Option.bind_some, g1, Option.bind_some] at e0
      -- going on
      have go : ∀ (G3 : xG_) (fd3 : Int), cPs G3 → (∀ b j, b ≠ 84 → ¬ (87 ≤ b ∧ b ≤ 92) → ¬ (b = 83 ∧ (j = 6 ∨ j = 7)) → b ≠ 103 → b ≠ 106 → G3 b j = G b j) → (∀ a j, 83 ≤ a → a ≤ 91 → G3 a j = G1 a j) → c164_138 f (fu + 1) 93 u fd (i : Int) (S, G, m) = c164_138 f fu 93 u fd3 ((i + 1 : Nat) : Int) (S, G3, m) → bsI G3 nv I as (W ++ [v0]) fd3 → ∃ G' fd', c164_138 f (fu + 1) 93 u fd (i : Int) (S, G, m) = c164_220 f 93 u fd' (S, G', m) ∧ (∀ b j, b ≠ 84 → ¬ (87 ≤ b ∧ b ≤ 92) → ¬ (b = 83 ∧ (j = 6 ∨ j = 7)) → b ≠ 103 → b ≠ 106 → G' b j = G b j) ∧ cPs G' ∧ bsI G' nv I as (W ++ v0 :: V) fd' := fun G3 fd3 p3 z3 y3 es hb3 => by
        obtain ⟨G4, fd4, r1, r2, r3, r4⟩ := ih (W ++ [v0]) k' (i + 1) fu G3 fd3 (h.f3 hfa hx p3 (fun b j y1 y2 y3 y4 y5 _ _ => z3 b j y1 y2 y3 y4 y5)) (e5.g9 y3) (by omega) (by omega) (by omega) (hI.fx hu (fun b j y => z3 b j (by omega) (by omega) (by omega) (by omega) (by omega))) (by rw [z3 _ _ (by omega) (by omega) (by omega) (by omega) (by omega)]; exact hg) (by rw [z3 _ _ (by omega) (by omega) (by omega) (by omega) (by omega)]; exact h6) (fun c hc => by rw [z3 _ _ (by omega) (by omega) (by omega) (by omega) (by omega)]; exact hgv c hc) hb3
        rw [List.append_assoc, List.singleton_append] at r4
        exact ⟨G4, fd4, es.trans r1, fun b j y1 y2 y3 y4 y5 => by rw [r2 b j y1 y2 y3 y4 y5, z3 b j y1 y2 y3 y4 y5], r3, r4⟩
      have y2 : ∀ a j, 83 ≤ a → a ≤ 91 → G2 a j = G1 a j := fun a j w1 w2 => g2 a j (by omega) (by omega)
      have skip : ¬ gvY I as v0 → bsI G2 nv I as (W ++ [v0]) fd := fun hn => by
        rcases hb with ⟨q1, q2⟩ | ⟨q1, v, q2, q3, q4, q5⟩
        · refine .inl ⟨q1, fun w hw => ?_⟩
          rcases List.mem_append.mp hw with z | z
          · exact q2 w z
          · rw [List.mem_singleton.mp z]; exact hn
        · refine .inr ⟨q1, v, List.mem_append.mpr (.inl q2), q3, fun j hj => by rw [z2 _ _ (by omega) (by omega) (by omega) (by omega)]; exact q4 j hj, fun w hw hy => ?_⟩
          rcases List.mem_append.mp hw with z | z
          · exact q5 w z hy
          · rw [List.mem_singleton.mp z] at hy; exact absurd hy hn
      rcases g3 with ⟨b1, ys, w1, w2⟩ | ⟨b0, w1⟩
      · subst b1
        have ly : ys.length = I.length := qMk_len _ _ w1
        have h22 : G2 u 2 = (I.length : Int) := by rw [z2 _ _ (by omega) (by omega) (by omega) (by omega)]; exact hI.1
        have h23 : G2 u 3 = -1 := by rw [z2 _ _ (by omega) (by omega) (by omega) (by omega)]; exact hg
        obtain ⟨v5, t1, t2⟩ := k_165 (f := f) (m := m) (by omega) h.1.1 ps2 us h22 hnI h23
        have h105 : ∀ c, c < as.length → G2 105 c = as.getD c 0 := fun c hc => by rw [z2 _ _ (by omega) (by omega) (by omega) (by omega)]; exact hgv c hc
        rw [if_neg (show ¬ (1 : Int) = 0 by decide), i3, Option.bind_some, t1, Option.bind_some] at e0
        rcases t2 with ⟨rfl, t3⟩ | ⟨rfl, c, t3, _, t5⟩
        · have ey : ys = as := by
            refine List.ext_getElem (by omega) (fun i h1 h2 => ?_)
            have q := t3 i (by omega) (by omega)
            rw [w2 i (by omega), h105 i h2, getD_e h1, getD_e h2] at q
            exact q
          have yv : gvY I as v0 := by rw [← ey]; exact w1
          rw [if_neg (show ¬ (1 : Int) = 0 by decide)] at e0
          -- a better one
          have take : c164_138 f (fu + 1) 93 u fd (i : Int) (S, G, m) = c164_193 (c164_138 f fu) f 93 u (i : Int) (S, G2, m) → (∀ w ∈ W, gvY I as w → vCmp (vec nv v0) (vec nv w) ≤ 0) → ∃ G' fd', c164_138 f (fu + 1) 93 u fd (i : Int) (S, G, m) = c164_220 f 93 u fd' (S, G', m) ∧ (∀ b j, b ≠ 84 → ¬ (87 ≤ b ∧ b ≤ 92) → ¬ (b = 83 ∧ (j = 6 ∨ j = 7)) → b ≠ 103 → b ≠ 106 → G' b j = G b j) ∧ cPs G' ∧ bsI G' nv I as (W ++ v0 :: V) fd' := fun es hl => by
            have ecp : cq_cp 84 0 106 0 8 (S, G2, m) = some (S, cpG G2 84 0 106 0 8, m) := cp_ok (sp := 0) (dp := 0) (n := 8) (s84 h.1.1) (s106 h.1.1) (.inr rfl) (by omega) (by omega)
            have zc : ∀ a j, a ≠ 106 → cpG G2 84 0 106 0 8 a j = G2 a j := fun a j y => cpG_n y
            have pc : cPs (cpG G2 84 0 106 0 8) := ps2.ge (fun b j hz => zc b j (by
              rcases hz with z | z | z | z | z | z | z | ⟨z, z1, z2, k, z3⟩ | z | z | z | ⟨k, z1, z2, z3⟩ <;> omega))
            unfold c164_193 c164_214 at es
            rw [o_gr (y := 83) (s93 h.1.1) (p93_0 ps2), Option.bind_some, o_gr (y := 84) (s83 h.1.1) (p83_0 ps2), Option.bind_some, o_gr (y := 106) (s93 h.1.1) (p93_12 ps2), Option.bind_some, ecp, Option.bind_some, ei] at es
            refine go _ 1 pc (fun b j y1 y2 y3 y4 y5 => by rw [zc b j y5, z2 b j y1 y2 y3 y4]) (fun a j w1 w2 => by rw [zc a j (by omega), y2 a j w1 w2]) es (.inr ⟨rfl, v0, List.mem_append.mpr (.inr List.mem_cons_self), yv, fun j hj => ?_, fun w hw hy => ?_⟩)
            · rw [cpG_i (Nat.zero_le _) (by omega), Nat.zero_add, Nat.sub_zero, y2 _ _ (by omega) (by omega)]
              exact (e6 j (hBf j hj)).2.1
            · rcases List.mem_append.mp hw with z | z
              · exact hl w z hy
              · rw [List.mem_singleton.mp z, vCmp_self]; exact Int.le_refl _
          rcases hb with ⟨rfl, q2⟩ | ⟨rfl, v, q2, q3, q4, q5⟩
          · rw [if_pos rfl] at e0
            exact take e0 (fun w hw hy => absurd hy (q2 w hw))
          · rw [if_neg (show ¬ (1 : Int) = 0 by decide), o_gi us, Option.bind_some, z2 _ _ (by omega) (by omega) (by omega) (by omega), h6, i3, Option.bind_some] at e0
            have e66 : c166 f 93 (nv : Int) (S, G2, m) = some (if vcN (G2 84) (G2 106) 0 nv < 0 then 1 else 0, (S, G2, m)) := k_166 h.1.1 ps2 hnv nv 0 f (by omega) (by omega)
            have ev : vcN (G2 84) (G2 106) 0 nv = vCmp (vec nv v0) (vec nv v) := by
              rw [vcN_v, vec_ext (fun j hj => show G2 84 j = v0 j by rw [y2 _ _ (by omega) (by omega)]; exact (e6 j (hBf j hj)).2.1), vec_ext (fun j hj => show G2 106 j = v j by rw [z2 _ _ (by omega) (by omega) (by omega) (by omega)]; exact q4 j hj)]
            rw [e66, Option.bind_some, ev] at e0
            by_cases cb : vCmp (vec nv v0) (vec nv v) < 0
            · rw [if_pos cb, if_neg (show ¬ (1 : Int) = 0 by decide)] at e0
              exact take e0 (fun w hw hy => vec_l2 cb (q5 w hw hy))
            · rw [if_neg cb, if_pos rfl] at e0
              unfold c164_214 at e0
              rw [ei] at e0
              refine go G2 1 ps2 (fun b j y1 y2 y3 y4 _ => z2 b j y1 y2 y3 y4) y2 e0 (.inr ⟨rfl, v, List.mem_append.mpr (.inl q2), q3, fun j hj => by rw [z2 _ _ (by omega) (by omega) (by omega) (by omega)]; exact q4 j hj, fun w hw hy => ?_⟩)
              rcases List.mem_append.mp hw with z | z
              · exact q5 w z hy
              · rw [List.mem_singleton.mp z]
                have := vCmp_anti (vec nv v) (vec nv v0)
                omega
        · rw [if_pos rfl] at e0
          unfold c164_214 at e0
          rw [ei] at e0
          refine go G2 fd ps2 (fun b j y1 y2 y3 y4 _ => z2 b j y1 y2 y3 y4) y2 e0 (skip (fun hy => t5 ?_))
          have e : ys = as := Option.some.inj (w1.symm.trans hy)
          rw [w2 c t3, h105 c (by omega), e]
      · subst b0
        rw [if_pos rfl] at e0
        unfold c164_214 at e0
        rw [ei] at e0
        exact go G2 fd ps2 (fun b j y1 y2 y3 y4 _ => z2 b j y1 y2 y3 y4) y2 e0 (skip (fun hy => by unfold gvY at hy; rw [w1] at hy; cases hy))
end
