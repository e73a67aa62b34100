section
/-! THE CLASS: reason: the least WAY that gives a row -/
section
variable {f u np nv a fa fn : Nat} {S : Nat → Nat × Nat × Nat} {G G' : xG_} {m : Nat × Nat} {K : pCd} {Ls : List pLt} {pl : List Nat} {br : Int} {qn xp cp : Nat → Nat} {R : Nat → List pRw} {lo hi : Nat → Int} {Bf : Nat} {I : List pCd} {g : Int × Int × Int} {as : List Int} {V : List (Nat → Int)} {k : Nat}
theorem wSt8.g9 (h : wSt8 Ls pl a br R lo hi G Bf V k) (hf : ∀ a j, 83 ≤ a → a ≤ 91 → G' a j = G a j) : wSt8 Ls pl a br R lo hi G' Bf V k := by
  rcases h with ⟨st, b, vl, V1, k1, V2, k2, a1, a2, a3, a4, a5, a6, a7, a8, a9, a10⟩ | ⟨n, B, a1, a2, a3, a4, a5⟩
  · exact .inl ⟨st, b, vl, V1, k1, V2, k2, a1, by rw [hf _ _ (by omega) (by omega)]; exact a2, by rw [hf _ _ (by omega) (by omega)]; exact a3, a4.ge (hf _ _ (by omega) (by omega)) (fun j _ => hf _ _ (by omega) (by omega)), a5, a6, a7, a8.ge _ _ _ _ (fun a j _ _ _ => hf _ _ (by omega) (by omega)) (hf _ _ (by omega) (by omega)) (fun j _ => hf _ _ (by omega) (by omega)), a9, a10⟩
  · exact .inr ⟨n, B, a1, by rw [hf _ _ (by omega) (by omega)]; exact a2, by rw [hf _ _ (by omega) (by omega)]; exact a3, a4, a5.ge _ _ _ _ (fun a j _ _ _ => hf _ _ (by omega) (by omega)) (hf _ _ (by omega) (by omega)) (fun j _ => hf _ _ (by omega) (by omega))⟩
/-- WAYS over a moment: rows 92, 103, 106, 107 and what next() changes don't matter -/
theorem cWE.f3 (h : cWE S G u K Ls pl fa fn np nv a br qn xp cp R lo hi) (hfa : 203 < fa) (hx : ∀ p, p < np → 203 < xp p) (hp : cPs G') (hf : ∀ a j, a ≠ 84 → ¬ (87 ≤ a ∧ a ≤ 92) → ¬ (a = 83 ∧ (j = 6 ∨ j = 7)) → a ≠ 103 → a ≠ 106 → a ≠ 107 → ¬ (a = 93 ∧ j = 16) → G' a j = G a j) : cWE S G' u K Ls pl fa fn np nv a br qn xp cp R lo hi := by
  obtain ⟨⟨a1, a2, a3, a4, a5, a6, a7, a8⟩, b1, c1, ⟨d1, d2⟩, e1, f1⟩ := h
  have hu := b1.2.2.2.2.1
  have z : ∀ a j, 107 < a → G' a j = G a j := fun a j y => hf a j (by omega) (by omega) (by omega) (by omega) (by omega) (by omega) (by omega)
  have z8 : ∀ a j, (a = 83 ∧ j < 6 ∨ a = 85 ∨ a = 86) → G' a j = G a j := fun a j y => hf a j (by omega) (by omega) (by omega) (by omega) (by omega) (by omega) (by omega)
  refine ⟨⟨a1, hp, by rw [z8 _ _ (by omega)]; exact a3, by rw [z8 _ _ (by omega)]; exact a4, by rw [z8 _ _ (by omega)]; exact a5, a6, a7, a8⟩, b1.fx (fun a j y => z a j (by omega)), c1, ⟨d1, fun k hk => ?_⟩, fun p hp => ?_, fun l hl => ?_⟩
  · rw [z _ _ (by omega), z _ _ (by omega)]; exact d2 k hk
  · obtain ⟨q1, q2, q3, q4⟩ := e1 p hp
    have := hx p hp
    exact ⟨by rw [z _ _ (by omega)]; exact q1, q2, q3.ge (fun _ _ _ => rfl) (fun j => z _ _ (by omega)) (fun j => z _ _ (by omega)) (fun j => z _ _ (by omega)), q4⟩
  · rw [z8 _ _ (by omega), z8 _ _ (by omega)]; exact f1 l hl
/-- a WAY that gives the row -/
def gvY (I : List pCd) (as : List Int) (v : Nat → Int) : Prop := qMk I (-1) v I.length = some as
/-- the best of those found -/
def bsI (G : xG_) (nv : Nat) (I : List pCd) (as : List Int) (W : List (Nat → Int)) (fd : Int) : Prop := (fd = 0 ∧ ∀ v ∈ W, ¬ gvY I as v) ∨ (fd = 1 ∧ ∃ v ∈ W, gvY I as v ∧ (∀ j, j < nv → G 106 j = v j) ∧ ∀ w ∈ W, gvY I as w → vCmp (vec nv v) (vec nv w) ≤ 0)
theorem vec_l2 {v w x : Nat → Int} (h1 : vCmp (vec nv v) (vec nv w) < 0) (h2 : vCmp (vec nv w) (vec nv x) ≤ 0) : vCmp (vec nv v) (vec nv x) ≤ 0 := by
  have l : ∀ y : Nat → Int, (vec nv y).length = nv := fun y => vec_len
  by_cases c : vCmp (vec nv w) (vec nv x) = 0
  · rw [← vCmp_eq ((l w).trans (l x).symm) c]; omega
  · have := vCmp_tr ((l v).trans (l w).symm) ((l w).trans (l x).symm) h1 (by omega)
    omega
theorem k_164n (hf : 100003010 < f) (hfa : 203 < fa) (hx : ∀ p, p < np → 203 < xp p) (hnI : I.length ≤ 4) (hwI : wIe nv I (-1)) (hnv : nv ≤ 8) (has : as.length = I.length) (hBf : ∀ j, j < nv → Bf.testBit j = true) : ∀ (V W : List (Nat → Int)) (k i fu : Nat) (G : xG_) (fd : Int), cWE S G u K Ls pl fa fn np nv a br qn xp cp R lo hi → wSt8 Ls pl a br R lo hi G Bf V k → k ≤ 100000000 → V.length < fu → i + V.length < 10000000 → cIt G u K g I → G u 3 = -1 → G u 6 = (nv : Int) → (∀ c, c < as.length → G 105 c = as.getD c 0) → bsI G nv I as W fd →
    ∃ G' fd', c164_138 f fu 93 u fd (i : Int) (S, G, m) = c164_220 f 93 u fd' (S, G', m) ∧ (∀ b j, b ≠ 84 → ¬ (87 ≤ b ∧ b ≤ 92) → ¬ (b = 83 ∧ (j = 6 ∨ j = 7)) → b ≠ 103 → b ≠ 106 → G' b j = G b j) ∧ cPs G' ∧ bsI G' nv I as (W ++ V) fd' := by
  intro V
  induction V with
  | nil =>
    intro W k i fu G fd h hs hk hfu hii hI hg h6 hgv hb
    obtain ⟨fu, rfl⟩ : ∃ t, fu = t + 1 := ⟨fu - 1, by omega⟩
    rcases k_next (m := m) hf h hs hk with ⟨G1, e1, e2, e3⟩ | ⟨G1, v, V', k', e1, e2, e3, _⟩
    · have i1 : cq_is 9 14 83 (S, G, m) = some () := if_pos (s83 h.1.1)
      refine ⟨G1, fd, ?_, fun b j y1 y2 y3 _ _ => e2 b j y1 y2 y3, (h.ge e2).1.2.1, ?_⟩
      · show c164_138b (c164_138 f fu) f _ _ _ _ _ = _
        unfold c164_138b
        rw [if_neg (by simp at hii; omega), o_gr (y := 83) (s93 h.1.1) (p93_0 h.1.2.1), Option.bind_some, i1, Option.bind_some, e1, Option.bind_some, if_pos rfl]
      · rw [List.append_nil]
        rcases hb with q | ⟨q1, v, q2, q3, q4, q5⟩
        · exact .inl q
        · exact .inr ⟨q1, v, q2, q3, fun j hj => by rw [e2 _ _ (by omega) (by omega) (by omega)]; exact q4 j hj, q5⟩
    · cases e3
  | cons v0 V ih =>
    intro W k i fu G fd h hs hk hfu hii hI hg h6 hgv hb
    rw [List.length_cons] at hfu hii
    obtain ⟨fu, rfl⟩ : ∃ t, fu = t + 1 := ⟨fu - 1, by omega⟩
    rcases k_next (m := m) hf h hs hk with ⟨G1, e1, e2, e3⟩ | ⟨G1, v, V', k', e1, e2, e3, e4, e5, e6⟩
    · cases e3
    · injection e3 with q1 q2
      subst q1 q2
      have h1 := h.ge e2
      have hu := h.2.1.2.2.2.2.1
      have us := h.2.1.1.1
      have ei : xwr ((i : Int) + 1) = ((i + 1 : Nat) : Int) := by rw [xwr_g _ (by omega) (by omega)]; omega
      have hI1 : cIt G1 u K g I := hI.fx hu (fun b j y => e2 b j (by omega) (by omega) (by omega))
      have hV1 : ∀ c, c < I.length → (c : Int) ≠ -1 → cVl G1 (qVm (I.getD c [])) v0 := fun c hc hn j hj => e6 j (hBf j (qVm_in (hwI c hc hn).1.1 j hj))
      obtain ⟨b, G2, g1, g2, g3⟩ := k_142h (f := f) (m := m) (vl := v0) (by omega) hnI hwI h1.wy hI1 (by rw [e2 _ _ (by omega) (by omega) (by omega)]; exact hg) hV1
      have ps2 : cPs G2 := h1.1.2.1.ge (fun b j hz => g2 b j (by
        rcases hz with z | z | z | z | z | z | z | ⟨z, z1, z2, k, z3⟩ | z | z | z | ⟨k, z1, z2, z3⟩ <;> omega) (by
        rcases hz with z | z | z | z | z | z | z | ⟨z, z1, z2, k, z3⟩ | z | z | z | ⟨k, z1, z2, z3⟩ <;> omega))
      have z2 : ∀ b j, b ≠ 84 → ¬ (87 ≤ b ∧ b ≤ 92) → ¬ (b = 83 ∧ (j = 6 ∨ j = 7)) → b ≠ 103 → G2 b j = G b j := fun b j y1 y2 y3 y4 => by rw [g2 b j (by omega) y4, e2 b j y1 y2 y3]
      have i1 : cq_is 9 14 83 (S, G, m) = some () := if_pos (s83 h.1.1)
      have i2 : cq_is 9 14 83 (S, G1, m) = some () := if_pos (s83 h.1.1)
      have i3 : cq_is 10 18 93 (S, G2, m) = some () := if_pos (s93 h.1.1)
      have e0 := Eq.refl (c164_138 f (fu + 1) 93 u fd (i : Int) (S, G, m))
      conv at e0 => { rhs; change c164_138b (c164_138 f fu) f 93 u fd (i : Int) (S, G, m); unfold c164_138b }
      rw [if_neg (by omega), o_gr (y := 83) (s93 h.1.1) (p93_0 h.1.2.1), Option.bind_some, i1, Option.bind_some, e1, Option.bind_some, if_neg (show ¬ (1 : Int) = 0 by decide), o_gr (y := 83) (s93 h.1.1) (p93_0 h1.1.2.1), Option.bind_some, o_gr (y := 103) (s93 h.1.1) (p93_9 h1.1.2.1), Option.bind_some, i2, Option.bind_some, g1, Option.bind_some] at e0
      -- going on
      have go : ∀ (G3 : xG_) (fd3 : Int), cPs G3 → (∀ b j, b ≠ 84 → ¬ (87 ≤ b ∧ b ≤ 92) → ¬ (b = 83 ∧ (j = 6 ∨ j = 7)) → b ≠ 103 → b ≠ 106 → G3 b j = G b j) → (∀ a j, 83 ≤ a → a ≤ 91 → G3 a j = G1 a j) → c164_138 f (fu + 1) 93 u fd (i : Int) (S, G, m) = c164_138 f fu 93 u fd3 ((i + 1 : Nat) : Int) (S, G3, m) → bsI G3 nv I as (W ++ [v0]) fd3 → ∃ G' fd', c164_138 f (fu + 1) 93 u fd (i : Int) (S, G, m) = c164_220 f 93 u fd' (S, G', m) ∧ (∀ b j, b ≠ 84 → ¬ (87 ≤ b ∧ b ≤ 92) → ¬ (b = 83 ∧ (j = 6 ∨ j = 7)) → b ≠ 103 → b ≠ 106 → G' b j = G b j) ∧ cPs G' ∧ bsI G' nv I as (W ++ v0 :: V) fd' := fun G3 fd3 p3 z3 y3 es hb3 => by
        obtain ⟨G4, fd4, r1, r2, r3, r4⟩ := ih (W ++ [v0]) k' (i + 1) fu G3 fd3 (h.f3 hfa hx p3 (fun b j y1 y2 y3 y4 y5 _ _ => z3 b j y1 y2 y3 y4 y5)) (e5.g9 y3) (by omega) (by omega) (by omega) (hI.fx hu (fun b j y => z3 b j (by omega) (by omega) (by omega) (by omega) (by omega))) (by rw [z3 _ _ (by omega) (by omega) (by omega) (by omega) (by omega)]; exact hg) (by rw [z3 _ _ (by omega) (by omega) (by omega) (by omega) (by omega)]; exact h6) (fun c hc => by rw [z3 _ _ (by omega) (by omega) (by omega) (by omega) (by omega)]; exact hgv c hc) hb3
        rw [List.append_assoc, List.singleton_append] at r4
        exact ⟨G4, fd4, es.trans r1, fun b j y1 y2 y3 y4 y5 => by rw [r2 b j y1 y2 y3 y4 y5, z3 b j y1 y2 y3 y4 y5], r3, r4⟩
      have y2 : ∀ a j, 83 ≤ a → a ≤ 91 → G2 a j = G1 a j := fun a j w1 w2 => g2 a j (by omega) (by omega)
      have skip : ¬ gvY I as v0 → bsI G2 nv I as (W ++ [v0]) fd := fun hn => by
        rcases hb with ⟨q1, q2⟩ | ⟨q1, v, q2, q3, q4, q5⟩
        · refine .inl ⟨q1, fun w hw => ?_⟩
          rcases List.mem_append.mp hw with z | z
          · exact q2 w z
          · rw [List.mem_singleton.mp z]; exact hn
        · refine .inr ⟨q1, v, List.mem_append.mpr (.inl q2), q3, fun j hj => by rw [z2 _ _ (by omega) (by omega) (by omega) (by omega)]; exact q4 j hj, fun w hw hy => ?_⟩
          rcases List.mem_append.mp hw with z | z
          · exact q5 w z hy
          · rw [List.mem_singleton.mp z] at hy; exact absurd hy hn
      rcases g3 with ⟨b1, ys, w1, w2⟩ | ⟨b0, w1⟩
      · subst b1
        have ly : ys.length = I.length := qMk_len _ _ w1
        have h22 : G2 u 2 = (I.length : Int) := by rw [z2 _ _ (by omega) (by omega) (by omega) (by omega)]; exact hI.1
        have h23 : G2 u 3 = -1 := by rw [z2 _ _ (by omega) (by omega) (by omega) (by omega)]; exact hg
        obtain ⟨v5, t1, t2⟩ := k_165 (f := f) (m := m) (by omega) h.1.1 ps2 us h22 hnI h23
        have h105 : ∀ c, c < as.length → G2 105 c = as.getD c 0 := fun c hc => by rw [z2 _ _ (by omega) (by omega) (by omega) (by omega)]; exact hgv c hc
        rw [if_neg (show ¬ (1 : Int) = 0 by decide), i3, Option.bind_some, t1, Option.bind_some] at e0
        rcases t2 with ⟨rfl, t3⟩ | ⟨rfl, c, t3, _, t5⟩
        · have ey : ys = as := by
            refine List.ext_getElem (by omega) (fun i h1 h2 => ?_)
            have q := t3 i (by omega) (by omega)
            rw [w2 i (by omega), h105 i h2, getD_e h1, getD_e h2] at q
            exact q
          have yv : gvY I as v0 := by rw [← ey]; exact w1
          rw [if_neg (show ¬ (1 : Int) = 0 by decide)] at e0
          -- a better one
          have take : c164_138 f (fu + 1) 93 u fd (i : Int) (S, G, m) = c164_193 (c164_138 f fu) f 93 u (i : Int) (S, G2, m) → (∀ w ∈ W, gvY I as w → vCmp (vec nv v0) (vec nv w) ≤ 0) → ∃ G' fd', c164_138 f (fu + 1) 93 u fd (i : Int) (S, G, m) = c164_220 f 93 u fd' (S, G', m) ∧ (∀ b j, b ≠ 84 → ¬ (87 ≤ b ∧ b ≤ 92) → ¬ (b = 83 ∧ (j = 6 ∨ j = 7)) → b ≠ 103 → b ≠ 106 → G' b j = G b j) ∧ cPs G' ∧ bsI G' nv I as (W ++ v0 :: V) fd' := fun es hl => by
            have ecp : cq_cp 84 0 106 0 8 (S, G2, m) = some (S, cpG G2 84 0 106 0 8, m) := cp_ok (sp := 0) (dp := 0) (n := 8) (s84 h.1.1) (s106 h.1.1) (.inr rfl) (by omega) (by omega)
            have zc : ∀ a j, a ≠ 106 → cpG G2 84 0 106 0 8 a j = G2 a j := fun a j y => cpG_n y
            have pc : cPs (cpG G2 84 0 106 0 8) := ps2.ge (fun b j hz => zc b j (by
              rcases hz with z | z | z | z | z | z | z | ⟨z, z1, z2, k, z3⟩ | z | z | z | ⟨k, z1, z2, z3⟩ <;> omega))
            unfold c164_193 c164_214 at es
            rw [o_gr (y := 83) (s93 h.1.1) (p93_0 ps2), Option.bind_some, o_gr (y := 84) (s83 h.1.1) (p83_0 ps2), Option.bind_some, o_gr (y := 106) (s93 h.1.1) (p93_12 ps2), Option.bind_some, ecp, Option.bind_some, ei] at es
            refine go _ 1 pc (fun b j y1 y2 y3 y4 y5 => by rw [zc b j y5, z2 b j y1 y2 y3 y4]) (fun a j w1 w2 => by rw [zc a j (by omega), y2 a j w1 w2]) es (.inr ⟨rfl, v0, List.mem_append.mpr (.inr List.mem_cons_self), yv, fun j hj => ?_, fun w hw hy => ?_⟩)
            · rw [cpG_i (Nat.zero_le _) (by omega), Nat.zero_add, Nat.sub_zero, y2 _ _ (by omega) (by omega)]
              exact (e6 j (hBf j hj)).2.1
            · rcases List.mem_append.mp hw with z | z
              · exact hl w z hy
              · rw [List.mem_singleton.mp z, vCmp_self]; exact Int.le_refl _
          rcases hb with ⟨rfl, q2⟩ | ⟨rfl, v, q2, q3, q4, q5⟩
          · rw [if_pos rfl] at e0
            exact take e0 (fun w hw hy => absurd hy (q2 w hw))
          · rw [if_neg (show ¬ (1 : Int) = 0 by decide), o_gi us, Option.bind_some, z2 _ _ (by omega) (by omega) (by omega) (by omega), h6, i3, Option.bind_some] at e0
            have e66 : c166 f 93 (nv : Int) (S, G2, m) = some (if vcN (G2 84) (G2 106) 0 nv < 0 then 1 else 0, (S, G2, m)) := k_166 h.1.1 ps2 hnv nv 0 f (by omega) (by omega)
            have ev : vcN (G2 84) (G2 106) 0 nv = vCmp (vec nv v0) (vec nv v) := by
              rw [vcN_v, vec_ext (fun j hj => show G2 84 j = v0 j by rw [y2 _ _ (by omega) (by omega)]; exact (e6 j (hBf j hj)).2.1), vec_ext (fun j hj => show G2 106 j = v j by rw [z2 _ _ (by omega) (by omega) (by omega) (by omega)]; exact q4 j hj)]
            rw [e66, Option.bind_some, ev] at e0
            by_cases cb : vCmp (vec nv v0) (vec nv v) < 0
            · rw [if_pos cb, if_neg (show ¬ (1 : Int) = 0 by decide)] at e0
              exact take e0 (fun w hw hy => vec_l2 cb (q5 w hw hy))
            · rw [if_neg cb, if_pos rfl] at e0
              unfold c164_214 at e0
              rw [ei] at e0
              refine go G2 1 ps2 (fun b j y1 y2 y3 y4 _ => z2 b j y1 y2 y3 y4) y2 e0 (.inr ⟨rfl, v, List.mem_append.mpr (.inl q2), q3, fun j hj => by rw [z2 _ _ (by omega) (by omega) (by omega) (by omega)]; exact q4 j hj, fun w hw hy => ?_⟩)
              rcases List.mem_append.mp hw with z | z
              · exact q5 w z hy
              · rw [List.mem_singleton.mp z]
                have := vCmp_anti (vec nv v) (vec nv v0)
                omega
        · rw [if_pos rfl] at e0
          unfold c164_214 at e0
          rw [ei] at e0
          refine go G2 fd ps2 (fun b j y1 y2 y3 y4 _ => z2 b j y1 y2 y3 y4) y2 e0 (skip (fun hy => t5 ?_))
          have e : ys = as := Option.some.inj (w1.symm.trans hy)
          rw [w2 c t3, h105 c (by omega), e]
      · subst b0
        rw [if_pos rfl] at e0
        unfold c164_214 at e0
        rw [ei] at e0
        exact go G2 fd ps2 (fun b j y1 y2 y3 y4 _ => z2 b j y1 y2 y3 y4) y2 e0 (skip (fun hy => by unfold gvY at hy; rw [w1] at hy; cases hy))
end
end
section
/-! THE CLASS: reason: which rows a WAY is of -/
section
variable {f u x l nv W cap np a fa fn i p la fi : Nat} {S : Nat → Nat × Nat × Nat} {G G' : xG_} {m : Nat × Nat} {K T : pCd} {Ls : List pLt} {pl : List Nat} {br : Int} {qn xp cp : Nat → Nat} {RR : Nat → List pRw} {R : List pRw} {lo hi : Int} {lO hI : Nat → Int} {vl : Nat → Int}
theorem fit_255 {r : pRw} (hT : ∀ y ∈ T, wT1 nv y) (hnv : nv ≤ 8) (hl : r.1.length = T.length) : (∃ b' v', fitR T lo hi 255 vl r = some (b', v')) ↔ (lo ≤ r.2 ∧ r.2 ≤ hi) ∧ sTs vl T r.1 := by
  rw [fit_iff hT hl]
  have hb : ∀ k, k < 8 → (255 : Nat).testBit k = true := fun k hk => by
    have : (255 : Nat) = 2 ^ 8 - 1 := rfl
    rw [this, Nat.testBit_two_pow_sub_one]
    exact decide_eq_true hk
  constructor
  · rintro ⟨h1, w, w1, w2⟩
    refine ⟨h1, sTs_on w2 (fun k hk => (w1 k (hb k ?_)).symm)⟩
    obtain ⟨i, i1, i2, i3⟩ := qT_get.mp hk
    have hm : T.getD i (0, 0) ∈ T := by rw [getD_e i1]; exact List.getElem_mem i1
    rcases hT _ hm with ⟨z1, z2, z3⟩ | z1 | ⟨z1, _⟩
    · omega
    · omega
    · omega
  · rintro ⟨h1, h2⟩
    exact ⟨h1, vl, fun _ _ => rfl, h2⟩
theorem k_143l (hf : 600 < f) : ∀ (d i fu : Nat) (G : xG_), i + d = R.length → d < fu → cLv S G u x l 0 255 nv W cap K T R lo hi → G 90 0 = (la : Int) → isRn R T 255 vl fi la → (∀ k, (255 : Nat).testBit k = true → G 84 k = vl k) → (∀ j, j < i → fitR T lo hi 255 vl (R.getD j dRw) = none) → ∃ v G', c143_54 f fu 83 (l : Int) x (i : Int) (S, G, m) = some (v, (S, G', m)) ∧ (∀ a j, a ≠ 84 → G' a j = G a j) ∧ fst1 (fun j => ∃ b' v', fitR T lo hi 255 vl (R.getD j dRw) = some (b', v')) R.length v := by
  intro d
  have outl : ∀ {G : xG_}, cLv S G u x l 0 255 nv W cap K T R lo hi → isRn R T 255 vl fi la → ∀ j, j < R.length → la ≤ j → fitR T lo hi 255 vl (R.getD j dRw) = none := fun h hrn j hj hlj => by
    obtain ⟨h1, h2, h3, h4, h5', h6, _⟩ := h
    obtain ⟨kl, kl1, kl2⟩ := hrn.2.2
    cases hq : fitR T lo hi 255 vl (R.getD j dRw) with
    | none => rfl
    | some z =>
      have := (kl2 j hj (kl1.fit h6 (by rw [(h3.2.2.2.2.2.2.2 j hj).1, h5']) hq)).2
      omega
  have nn : ∀ {r : pRw}, fitR T lo hi 255 vl r = none → ¬ ∃ b' v', fitR T lo hi 255 vl r = some (b', v') := fun h ⟨b', v', e⟩ => by rw [h] at e; cases e
  induction d with
  | zero =>
    intro i fu G e1 e2 h h90 hrn hv hn
    obtain ⟨fu, rfl⟩ : ∃ t, fu = t + 1 := ⟨fu - 1, by omega⟩
    have e9 : cq_a 3 90 0 (S, G, m) = some (la : Int) := by rw [← h90]; exact o_a (z := 0) (s90 h.1.1) (by omega)
    refine ⟨-1, G, ?_, fun _ _ _ => rfl, .inr ⟨fun j hj => nn (hn j (by omega)), rfl⟩⟩
    show c143_54b (c143_54 f fu) f _ _ _ _ _ = _
    unfold c143_54b
    rw [o_gr (y := 90) (s83 h.1.1) (p83_11 h.1.2.1), Option.bind_some, e9, Option.bind_some, if_pos (by have := hrn.2.1; omega)]
  | succ d ih =>
    intro i fu G e1 e2 h h90 hrn hv hn
    obtain ⟨fu, rfl⟩ : ∃ t, fu = t + 1 := ⟨fu - 1, by omega⟩
    have e9 : cq_a 3 90 0 (S, G, m) = some (la : Int) := by rw [← h90]; exact o_a (z := 0) (s90 h.1.1) (by omega)
    have hb := h
    obtain ⟨h1, h2, h3, h4, h5', h6, h7, h8, h9, h10, h11, h12, h13⟩ := h
    have hlc := h3.2.2.2.2.1
    have hcap := h3.2.2.2.2.2.1
    have hi2 : i < R.length := by omega
    have lT : (R.getD i dRw).1.length = T.length := by rw [(h3.2.2.2.2.2.2.2 i hi2).1, h5']
    have i1 : cq_is 9 14 83 (S, G, m) = some () := if_pos (s83 h1.1)
    have ei : xwr ((i : Int) + 1) = ((i + 1 : Nat) : Int) := by rw [xwr_g _ (by omega) (by omega)]; omega
    have e0 := Eq.refl (c143_54 f (fu + 1) 83 (l : Int) x (i : Int) (S, G, m))
    conv at e0 => { rhs; change c143_54b (c143_54 f fu) f 83 (l : Int) x (i : Int) (S, G, m); unfold c143_54b }
    rw [o_gr (y := 90) (s83 h1.1) (p83_11 h1.2.1), Option.bind_some, e9, Option.bind_some] at e0
    by_cases hla : la ≤ i
    · rw [if_pos (by omega)] at e0
      refine ⟨-1, G, e0, fun _ _ _ => rfl, .inr ⟨fun j hj => ?_, rfl⟩⟩
      by_cases cj : j < i
      · exact nn (hn j cj)
      · exact nn (outl hb hrn j hj (by omega))
    · obtain ⟨v, G1, g1, g2, g3⟩ := k_136 (f := f) (m := m) (vl := fun k => G 84 k) (by omega) hb hi2 (fun k _ => rfl)
      have hb1 : cLv S G1 u x l 0 255 nv W cap K T R lo hi := hb.ge (fun a j y _ _ _ _ _ _ _ => g2 a j y)
      rw [if_neg (by omega), i1, Option.bind_some, g1, Option.bind_some] at e0
      rcases g3 with ⟨b', vl', y1, y2, y3⟩ | ⟨y1, y2, y3⟩
      · rw [if_neg (show ¬ v = -1 by omega)] at e0
        obtain ⟨v2, w1, _⟩ := fit_xt h6 (Nat.le_of_eq lT.symm) hv y1
        exact ⟨(i : Int), G1, e0, g2, .inl ⟨i, hi2, ⟨_, _, w1⟩, fun j hj => nn (hn j hj), rfl⟩⟩
      · rw [if_pos y1, ei] at e0
        have ni : fitR T lo hi 255 vl (R.getD i dRw) = none := by
          cases hq : fitR T lo hi 255 vl (R.getD i dRw) with
          | none => rfl
          | some z =>
            obtain ⟨z1, z2⟩ := z
            obtain ⟨v4, w1, _⟩ := fit_xt (v := fun k => G 84 k) h6 (Nat.le_of_eq lT.symm) (fun k hk => (hv k hk).symm) hq
            rw [y2] at w1
            cases w1
        obtain ⟨v2, G2, r1, r2, r3⟩ := ih (i + 1) fu G1 (by omega) (by omega) hb1 (by rw [g2 _ _ (by omega)]; exact h90) hrn (fun k hk => by rw [y3 k hk, hv k hk]) (fun j hj => by
          by_cases cj : j = i
          · rw [cj]; exact ni
          · exact hn j (by omega))
        exact ⟨v2, G2, e0.trans r1, fun a j y => by rw [r2 a j y, g2 a j y], r3⟩
/-- rowOf() -/
theorem k_143 (hf : 600 < f) (h : cWE S G u K Ls pl fa fn np nv a br qn xp cp RR lO hI) (hfa : 203 < fa) (hx : ∀ p, p < np → 203 < xp p) (hl : l < Ls.length) (hl8 : l < 8) (hy : (Ls.getD l dLt).1 ≠ 3) (hv : ∀ k, k < 8 → G 106 k = vl k) : ∃ v G', c143 f 83 (l : Int) 106 (S, G, m) = some (v, (S, G', m)) ∧ (∀ b j, b ≠ 84 → ¬ (87 ≤ b ∧ b ≤ 92) → ¬ (b = 83 ∧ (j = 6 ∨ j = 7)) → G' b j = G b j) ∧ cPs G' ∧ fst1 (fun j => (lO l ≤ ((RR (Ls.getD l dLt).2.1.toNat).getD j dRw).2 ∧ ((RR (Ls.getD l dLt).2.1.toNat).getD j dRw).2 ≤ hI l) ∧ sTs vl (Ls.getD l dLt).2.2.2.1 ((RR (Ls.getD l dLt).2.1.toNat).getD j dRw).1) (RR (Ls.getD l dLt).2.1.toNat).length v := by
  have hs := h.1.1
  have hp := h.1.2.1
  obtain ⟨G1, hG1⟩ : ∃ G1, G1 = xup2 (xup2 G 83 6 0) 87 0 255 := ⟨_, rfl⟩
  obtain ⟨G2, hG2⟩ : ∃ G2, G2 = cpG G1 106 0 84 0 8 := ⟨_, rfl⟩
  have z1 : ∀ b j, ¬ (b = 87 ∧ j = 0) → ¬ (b = 83 ∧ j = 6) → G1 b j = G b j := fun b j y1 y2 => by rw [hG1, xup2_n y1, xup2_n y2]
  have z2 : ∀ b j, b ≠ 84 → G2 b j = G1 b j := fun b j y => by rw [hG2]; exact cpG_n y
  have p0 : cPs (xup2 G 83 6 0) := hp.ge (fun b j hz => xup2_n (by
    rcases hz with z | z | z | z | z | z | z | ⟨z, z1, z2, k, z3⟩ | z | z | z | ⟨k, z1, z2, z3⟩ <;> omega))
  have p1 : cPs G1 := hp.ge (fun b j hz => z1 b j (by
    rcases hz with z | z | z | z | z | z | z | ⟨z, z1, z2, k, z3⟩ | z | z | z | ⟨k, z1, z2, z3⟩ <;> omega) (by
    rcases hz with z | z | z | z | z | z | z | ⟨z, z1, z2, k, z3⟩ | z | z | z | ⟨k, z1, z2, z3⟩ <;> omega))
  have p2 : cPs G2 := p1.ge (fun b j hz => z2 b j (by
    rcases hz with z | z | z | z | z | z | z | ⟨z, z1, z2, k, z3⟩ | z | z | z | ⟨k, z1, z2, z3⟩ <;> omega))
  have h2 : cWE S G2 u K Ls pl fa fn np nv a br qn xp cp RR lO hI := h.f3 hfa hx p2 (fun b j y1 y2 y3 _ _ _ _ => by rw [z2 b j y1, z1 b j (by omega) (by omega)])
  have v2 : ∀ k, k < 8 → G2 84 k = vl k := fun k hk => by
    rw [hG2, cpG_i (Nat.zero_le _) (by omega), Nat.zero_add, Nat.sub_zero, z1 _ _ (by omega) (by omega)]
    exact hv k hk
  have g6 : G2 83 6 = ((0 : Nat) : Int) := by rw [z2 _ _ (by omega), hG1, xup2_n (by omega), xup2_s]; rfl
  have g87 : G2 87 0 = ((255 : Nat) : Int) := by rw [z2 _ _ (by omega), hG1, xup2_s]; rfl
  obtain ⟨p, hp1, hp2, hlv, hF, hsr, hl100, hok⟩ := h2.lv hl hy g6 (by omega) g87 (by decide)
  have et : (Ls.getD l dLt).2.1.toNat = p := by rw [hp2]; omega
  rw [et]
  have b8 : ∀ k, (255 : Nat).testBit k = true → k < 8 := fun k hk => by
    have : (255 : Nat) = 2 ^ 8 - 1 := rfl
    rw [this, Nat.testBit_two_pow_sub_one] at hk
    exact of_decide_eq_true hk
  obtain ⟨G3, fi, la, g1, g2', g3, g4, g5, g6', g7⟩ := k_134 (f := f) (m := m) hf hlv hF hsr (fun k hk => v2 k (b8 k hk))
  have hb3 := hlv.ge (G' := G3) (fun a j _ _ y3 y4 y5 y6 _ _ => g2' a j y3 y4 y5 y6)
  have hu := hlv.1.2.2.2.1
  have hF3 : cFs S G3 u l fa fn p (xp p) := hF.ge hu (g2' _ _ (by omega) (by omega) (by omega) (by omega)) (fun a j y => g2' _ _ (by omega) (by omega) (by omega) (by omega))
  obtain ⟨q1, q2, q3, q4, q5, q6⟩ := hF3
  obtain ⟨c1, c2, c3, c4, c5', c6, c7, c8, c9, c10, c11, c12, c13⟩ := id hb3
  obtain ⟨kl, kl1, kl2⟩ := g7.2.2
  have hlc := c3.2.2.2.2.1
  have hcap := c3.2.2.2.2.2.1
  obtain ⟨v, G4, r1, r2, r3⟩ := k_143l (f := f) (m := m) (vl := vl) hf ((RR p).length - fi) fi f G3 (by have := g7.1; omega) (by omega) hb3 g6' g7 (fun k hk => by rw [g2' _ _ (by omega) (by omega) (by omega) (by omega)]; exact v2 k (b8 k hk)) (fun j hj => by
    have hjl : j < (RR p).length := by have := g7.1; omega
    cases hq : fitR (Ls.getD l dLt).2.2.2.1 (lO l) (hI l) 255 vl ((RR p).getD j dRw) with
    | none => rfl
    | some z =>
      have := (kl2 j hjl (kl1.fit c6 (by rw [(c3.2.2.2.2.2.2.2 j hjl).1, c5']) hq)).1
      omega)
  have p3 : cPs G3 := c1.2.1
  have e88 : cq_a 3 88 0 (S, G3, m) = some (fi : Int) := by rw [← g4]; exact o_a (z := 0) (s88 hs) (by omega)
  have es2 : cq_s 3 87 0 255 (S, xup2 G 83 6 0, m) = some (S, G1, m) := by rw [hG1]; exact o_s (z := 0) (s87 hs) (by omega)
  have ecp : cq_cp 106 0 84 0 8 (S, G1, m) = some (S, G2, m) := by rw [hG2]; exact cp_ok (sp := 0) (dp := 0) (n := 8) (s106 hs) (s84 hs) (.inr rfl) (by omega) (by omega)
  have is : cq_is 9 14 83 (S, G2, m) = some () := if_pos (s83 hs)
  refine ⟨v, G4, ?_, fun b j y1 y2 y3 => by rw [r2 b j y1, g2' b j (by omega) (by omega) (by omega) (by omega), z2 b j y1, z1 b j (by omega) (by omega)], p3.ge (fun b j hz => r2 b j (by
    rcases hz with z | z | z | z | z | z | z | ⟨z, z1, z2, k, z3⟩ | z | z | z | ⟨k, z1, z2, z3⟩ <;> omega)), ?_⟩
  · unfold c143
    rw [o_p (s83 hs), Option.bind_some, o_gr (y := 87) (s83 hs) (p83_8 p0), Option.bind_some, es2, Option.bind_some, o_gr (y := 84) (s83 hs) (p83_0 p1), Option.bind_some, ecp, Option.bind_some, is, Option.bind_some, g1, Option.bind_some, o_gr (s83 hs) q1, Option.bind_some, o_gr (s83 hs) c1.2.2.1, Option.bind_some, o_gr c1.2.2.2.2.1.1 c1.2.2.2.2.2.1.2.2.1, Option.bind_some, o_a c1.2.2.2.2.1.2.2.2.1 hl8, Option.bind_some, q5, o_ar q2 (by decide) q3 q4, Option.bind_some, o_gr (y := 88) (s83 hs) (p83_9 p3), Option.bind_some, e88, Option.bind_some]
    exact r1
  · have eq : ∀ j, j < (RR p).length → ((∃ b' v', fitR (Ls.getD l dLt).2.2.2.1 (lO l) (hI l) 255 vl ((RR p).getD j dRw) = some (b', v')) ↔ (lO l ≤ ((RR p).getD j dRw).2 ∧ ((RR p).getD j dRw).2 ≤ hI l) ∧ sTs vl (Ls.getD l dLt).2.2.2.1 ((RR p).getD j dRw).1) := fun j hj => fit_255 c6 c7 (by rw [(c3.2.2.2.2.2.2.2 j hj).1, c5'])
    rcases r3 with ⟨j, j1, j2, j3, j4⟩ | ⟨j1, j2⟩
    · exact .inl ⟨j, j1, (eq j j1).mp j2, fun i hi z => j3 i hi ((eq i (by omega)).mpr z), j4⟩
    · exact .inr ⟨fun j hj z => j1 j hj ((eq j hj).mpr z), j2⟩
/-- the rows of all ATOMS -/
def atN (Ls : List pLt) (l : Nat) : Nat := ((Ls.take l).filter (fun y => decide (y.1 = 1))).length
theorem atN_s {l : Nat} (hl : l < Ls.length) : atN Ls (l + 1) = atN Ls l + (if (Ls.getD l dLt).1 = 1 then 1 else 0) := by
  unfold atN
  have e : Ls.take (l + 1) = Ls.take l ++ [Ls.getD l dLt] := by
    rw [List.take_succ_eq_append_getElem hl]
    congr 1
    rw [getD_e hl]
  rw [e, List.filter_append, List.length_append]
  by_cases c : (Ls.getD l dLt).1 = 1
  · rw [if_pos c, List.filter_cons_of_pos (by exact decide_eq_true c)]; rfl
  · rw [if_neg c, List.filter_cons_of_neg (by rw [decide_eq_false c]; decide)]; rfl
theorem atN_get {l : Nat} (hl : l < Ls.length) (h1 : (Ls.getD l dLt).1 = 1) : (Ls.filter (fun y => decide (y.1 = 1)))[atN Ls l]? = some (Ls.getD l dLt) := by
  unfold atN
  conv => lhs; rw [← List.take_append_drop l Ls]
  rw [List.filter_append, List.getElem?_append_right (by rw [List.take_append_drop]; exact Nat.le_refl _)]
  have e : Ls.drop l = Ls.getD l dLt :: Ls.drop (l + 1) := by
    rw [List.drop_eq_getElem_cons hl]
    congr 1
    rw [getD_e hl]
  rw [e, List.filter_cons_of_pos (by exact decide_eq_true h1)]
  have : ((Ls.take l ++ (Ls.getD l dLt :: Ls.drop (l + 1))).take l) = Ls.take l := by rw [← e, List.take_append_drop]
  rw [this, Nat.sub_self]
  rfl
end
end
