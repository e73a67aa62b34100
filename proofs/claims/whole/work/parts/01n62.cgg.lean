section
/-! THE CLASS: reason: gathersGiven() -/
theorem qMk_z {I : List pCd} {gA : Nat} {v : Nat → Int} : ∀ (n : Nat) (xs : List Int), qMk I (gA : Int) v n = some xs → gA < n → xs.getD gA 0 = 0
  | 0, xs, _ => fun h => absurd h (Nat.not_lt_zero _)
  | n + 1, xs, h => by
    have h' : ((qMk I (gA : Int) v n).bind fun xs => if (n : Int) = (gA : Int) then some (xs ++ [0]) else (qEv v (I.getD n [])).bind fun z => some (xs ++ [z])) = some xs := h
    cases hq : qMk I (gA : Int) v n with
    | none => rw [hq] at h'; cases h'
    | some ys =>
      rw [hq, Option.bind_some] at h'
      have ly := qMk_len n ys hq
      intro hg
      by_cases e : n = gA
      · rw [if_pos (by omega)] at h'
        injection h' with h'
        rw [← h']
        simp only [List.getD_eq_getElem?_getD]
        rw [List.getElem?_append_right (by omega), show gA - ys.length = 0 by omega]
        rfl
      · rw [if_neg (by omega)] at h'
        cases he : qEv v (I.getD n []) with
        | none => rw [he] at h'; cases h'
        | some z =>
          rw [he, Option.bind_some] at h'
          injection h' with h'
          have := qMk_z n ys hq (by omega)
          rw [← h']
          simp only [List.getD_eq_getElem?_getD] at this ⊢
          rw [List.getElem?_append_left (by omega)]
          exact this
theorem set_same {l : List Int} {i : Nat} (h : i < l.length) : l.set i (l.getD i 0) = l := by
  refine List.ext_getElem (by rw [List.length_set]) (fun k h1 h2 => ?_)
  rw [List.getElem_set]
  by_cases e : i = k
  · subst e
    rw [if_pos rfl, getD_e h2]
  · rw [if_neg e]
/-- a group gives the row: which one, and what is gathered -/
theorem gds_iff {Ls : List pLt} {nv : Nat} {R : Nat → List pRw} {kk gO : Int} {I : List pCd} {gA : Nat} {as : List Int} {V : List (List Int)} (hV : isAll Ls nv R qO1 V) (hg : gA < I.length) (hl : as.length = I.length) : (∃ ks, gDs Ls nv R qO1 kk gO I gA ks as) ↔ gVs (fun v : List Int => gKy kk gO I (gA : Int) none (vF v)) (fun v => gXv kk gO (vF v)) V (as.set gA 0) ≠ [] ∧ gAg kk (gVs (fun v : List Int => gKy kk gO I (gA : Int) none (vF v)) (fun v => gXv kk gO (vF v)) V (as.set gA 0)) = as.getD gA 0 ∧ ¬ (kk = 2 ∧ (1000000000000 < as.getD gA 0 ∨ as.getD gA 0 < -1000000000000)) := by
  constructor
  · rintro ⟨ks, h⟩
    obtain ⟨h1, h2⟩ := gDs_of hV h
    obtain ⟨v, v1, v2⟩ := gVs_ne h1
    have v3 : qMk I (gA : Int) (vF v) I.length = some ks := by
      unfold gKy at v2
      split at v2
      · cases v2
      · cases hq : qMk I (gA : Int) (vF v) I.length with
        | none => rw [hq] at v2; cases v2
        | some ys =>
          rw [hq, Option.bind_some] at v2
          have : some ys = some ks := v2
          exact this
    have lk := qMk_len _ _ v3
    have z0 := qMk_z _ _ v3 hg
    unfold gRo at h2
    split at h2
    · cases h2
    · rename_i hn
      injection h2 with h2
      have ek : as.set gA 0 = ks := by
        rw [← h2, List.set_set]
        have := set_same (l := ks) (i := gA) (by omega)
        rw [z0] at this
        exact this
      have ea : as.getD gA 0 = gAg kk (gVs (fun v : List Int => gKy kk gO I (gA : Int) none (vF v)) (fun v => gXv kk gO (vF v)) V ks) := by
        rw [← h2]
        simp only [List.getD_eq_getElem?_getD]
        rw [List.getElem?_set_self (by omega)]
        rfl
      rw [ek, ea]
      exact ⟨h1, rfl, hn⟩
  · rintro ⟨h1, h2, h3⟩
    refine ⟨as.set gA 0, V, hV, h1, ?_⟩
    rw [h2]
    unfold gRo
    rw [if_neg h3, List.set_set, set_same (by omega)]
section
variable {f u np nv a fa fn gA gO : Nat} {S : Nat → Nat × Nat × Nat} {G G' : xG_} {m : Nat × Nat} {K : pCd} {Ls : List pLt} {pl : List Nat} {br kk : Int} {qn xp cp : Nat → Nat} {R : Nat → List pRw} {lo hi : Nat → Int} {Bf : Nat} {I : List pCd} {g : Int × Int × Int} {as : List Int} {V : List (Nat → Int)} {k : Nat}
/-- what was gathered -/
def ggI (kk : Int) (gO : Nat) (I : List pCd) (gA : Nat) (as : List Int) (W : List (Nat → Int)) (fd al : Int) : Prop := (fd = 0 ∧ gVs (gKy kk (gO : Int) I (gA : Int) none) (gXv kk (gO : Int)) W (as.set gA 0) = []) ∨ (fd = 1 ∧ gVs (gKy kk (gO : Int) I (gA : Int) none) (gXv kk (gO : Int)) W (as.set gA 0) ≠ [] ∧ al = gAg kk (gVs (gKy kk (gO : Int) I (gA : Int) none) (gXv kk (gO : Int)) W (as.set gA 0)))
theorem k_167l (hf : 100003010 < f) (hfa : 203 < fa) (hx : ∀ p, p < np → 203 < xp p) (hnI : I.length ≤ 4) (hwI : wIe nv I (gA : Int)) (hg : gA < I.length) (hnv : nv ≤ 8) (has : as.length = I.length) (hkk : kk = 1 ∨ kk = 2 ∨ kk = 3 ∨ kk = 4) (hO : kk ≠ 1 → gO < nv) (hBf : ∀ j, j < nv → Bf.testBit j = true) : ∀ (V W : List (Nat → Int)) (k i fu : Nat) (G : xG_) (fd al : Int), cWE S G u K Ls pl fa fn np nv a br qn xp cp R lo hi → wSt8 Ls pl a br R lo hi G Bf V k → k ≤ 100000000 → V.length < fu → i + V.length < 10000000 → W.length + V.length ≤ 1000000 → cIt G u K g I → G u 3 = (gA : Int) → G u 4 = kk + 9 → (kk ≠ 1 → G u 5 = (gO : Int)) → (∀ c, c < as.length → G 105 c = as.getD c 0) → (∀ v ∈ W, -3000000000000 ≤ gXv kk (gO : Int) v ∧ gXv kk (gO : Int) v ≤ 3000000000000) → ggI kk gO I gA as W fd al →
    ∃ G' fd' al', c167_18 f fu 93 u fd al (i : Int) (S, G, m) = c167_144 f 93 u fd' al' (S, G', m) ∧ (∀ b j, b ≠ 84 → ¬ (87 ≤ b ∧ b ≤ 92) → ¬ (b = 83 ∧ (j = 6 ∨ j = 7)) → b ≠ 103 → G' b j = G b j) ∧ cPs G' ∧ ggI kk gO I gA as (W ++ V) fd' al' := by
  intro V
  induction V with
  | nil =>
    intro W k i fu G fd al h hs hk hfu hii hWV hI h3 h4 h5 hgv hW hb
    obtain ⟨fu, rfl⟩ : ∃ t, fu = t + 1 := ⟨fu - 1, by omega⟩
    rcases k_next (m := m) hf h hs hk with ⟨G1, e1, e2, e3⟩ | ⟨G1, v, V', k', e1, e2, e3, _⟩
    · have i1 : cq_is 9 14 83 (S, G, m) = some () := if_pos (s83 h.1.1)
      refine ⟨G1, fd, al, ?_, fun b j y1 y2 y3 _ => e2 b j y1 y2 y3, (h.ge e2).1.2.1, by rw [List.append_nil]; exact hb⟩
      show c167_18b (c167_18 f fu) f _ _ _ _ _ _ = _
      unfold c167_18b
      rw [if_neg (by simp at hii; omega), o_gr (y := 83) (s93 h.1.1) (p93_0 h.1.2.1), Option.bind_some, i1, Option.bind_some, e1, Option.bind_some, if_pos rfl]
    · cases e3
  | cons v0 V ih =>
    intro W k i fu G fd al h hs hk hfu hii hWV hI h3 h4 h5 hgv hW hb
    rw [List.length_cons] at hfu hii hWV
    obtain ⟨fu, rfl⟩ : ∃ t, fu = t + 1 := ⟨fu - 1, by omega⟩
    rcases k_next (m := m) hf h hs hk with ⟨G1, e1, e2, e3⟩ | ⟨G1, v, V', k', e1, e2, e3, e4, e5, e6⟩
    · cases e3
    · injection e3 with q1 q2
      subst q1 q2
      have h1 := h.ge e2
      have hu := h.2.1.2.2.2.2.1
      have us := h.2.1.1.1
      have ei : xwr ((i : Int) + 1) = ((i + 1 : Nat) : Int) := by rw [xwr_g _ (by omega) (by omega)]; omega
      have f1 : ∀ b j, ¬ (83 ≤ b ∧ b ≤ 92) → G1 b j = G b j := fun b j y => e2 b j (by omega) (by omega) (by omega)
      have h41 : G1 u 4 = kk + 9 := by rw [f1 _ _ (by omega)]; exact h4
      obtain ⟨x, hxe⟩ : ∃ x, x = gXv kk (gO : Int) v0 := ⟨_, rfl⟩
      have hxb : kk ≠ 1 → vOk x := fun c => by
        rw [hxe]
        unfold gXv
        rw [if_neg c, Int.toNat_natCast]
        exact (e6 gO (hBf gO (hO c))).2.2
      have hxr : -3000000000000 ≤ x ∧ x ≤ 3000000000000 := by
        by_cases c : kk = 1
        · rw [hxe]; unfold gXv; rw [if_pos c]; decide
        · rcases hxb c with q | q <;> omega
      have i1 : cq_is 9 14 83 (S, G, m) = some () := if_pos (s83 h.1.1)
      have i2 : cq_is 9 14 83 (S, G1, m) = some () := if_pos (s83 h.1.1)
      -- what it tells
      have e0 : c167_18 f (fu + 1) 93 u fd al (i : Int) (S, G, m) = c167_60 (c167_18 f fu) f 93 u fd al (i : Int) x (S, G1, m) := by
        show c167_18b (c167_18 f fu) f _ _ _ _ _ _ = _
        unfold c167_18b
        rw [if_neg (by omega), o_gr (y := 83) (s93 h.1.1) (p93_0 h.1.2.1), Option.bind_some, i1, Option.bind_some, e1, Option.bind_some, if_neg (show ¬ (1 : Int) = 0 by decide), o_gi us, Option.bind_some, h41]
        by_cases c : kk = 1
        · rw [if_neg (fun z => z (by omega))]
          have : x = 1 := by rw [hxe]; unfold gXv; rw [if_pos c]
          rw [this]
        · have e84 : G1 84 gO = x := by
            rw [hxe]; unfold gXv
            rw [if_neg c, Int.toNat_natCast]
            exact (e6 gO (hBf gO (hO c))).2.1
          rw [if_pos (by omega), o_gr (y := 83) (s93 h.1.1) (p93_0 h1.1.2.1), Option.bind_some, o_gr (y := 84) (s83 h.1.1) (p83_0 h1.1.2.1), Option.bind_some, o_gi us, Option.bind_some, f1 _ _ (by omega), h5 c, o_a (s84 h.1.1) (by have := hO c; omega), Option.bind_some, e84]
      unfold c167_60 at e0
      rw [o_gi us, Option.bind_some, h41] at e0
      -- going on
      have go : ∀ (G3 : xG_) (fd3 al3 : Int), cPs G3 → (∀ b j, b ≠ 84 → ¬ (87 ≤ b ∧ b ≤ 92) → ¬ (b = 83 ∧ (j = 6 ∨ j = 7)) → b ≠ 103 → G3 b j = G b j) → (∀ a j, 83 ≤ a → a ≤ 91 → G3 a j = G1 a j) → c167_18 f (fu + 1) 93 u fd al (i : Int) (S, G, m) = c167_138 (c167_18 f fu) f 93 u fd3 al3 (i : Int) (S, G3, m) → ggI kk gO I gA as (W ++ [v0]) fd3 al3 → ∃ G' fd' al', c167_18 f (fu + 1) 93 u fd al (i : Int) (S, G, m) = c167_144 f 93 u fd' al' (S, G', m) ∧ (∀ b j, b ≠ 84 → ¬ (87 ≤ b ∧ b ≤ 92) → ¬ (b = 83 ∧ (j = 6 ∨ j = 7)) → b ≠ 103 → G' b j = G b j) ∧ cPs G' ∧ ggI kk gO I gA as (W ++ v0 :: V) fd' al' := fun G3 fd3 al3 p3 z3 y3 es hb3 => by
        unfold c167_138 at es
        rw [ei] at es
        obtain ⟨G4, fd4, al4, r1, r2, r3, r4⟩ := ih (W ++ [v0]) k' (i + 1) fu G3 fd3 al3 (h.f3 hfa hx p3 (fun b j y1 y2 y3 y4 _ _ _ => z3 b j y1 y2 y3 y4)) (e5.g9 y3) (by omega) (by omega) (by omega) (by rw [List.length_append, List.length_singleton]; omega) (hI.fx hu (fun b j y => z3 b j (by omega) (by omega) (by omega) (by omega))) (by rw [z3 _ _ (by omega) (by omega) (by omega) (by omega)]; exact h3) (by rw [z3 _ _ (by omega) (by omega) (by omega) (by omega)]; exact h4) (fun c => by rw [z3 _ _ (by omega) (by omega) (by omega) (by omega)]; exact h5 c) (fun c hc => by rw [z3 _ _ (by omega) (by omega) (by omega) (by omega)]; exact hgv c hc) (fun w hw => by
          rcases List.mem_append.mp hw with z | z
          · exact hW w z
          · rw [List.mem_singleton.mp z, ← hxe]; exact hxr) hb3
        rw [List.append_assoc, List.singleton_append] at r4
        exact ⟨G4, fd4, al4, es.trans r1, fun b j y1 y2 y3 y4 => by rw [r2 b j y1 y2 y3 y4, z3 b j y1 y2 y3 y4], r3, r4⟩
      have skip : ¬ gKy kk (gO : Int) I (gA : Int) none v0 = some (as.set gA 0) → ggI kk gO I gA as (W ++ [v0]) fd al := fun hn => by
        unfold ggI
        rw [gVs_s, if_neg hn]
        exact hb
      have ky : gKy kk (gO : Int) I (gA : Int) none v0 = if kk = 2 ∧ 2000000000000 ≤ x then none else qMk I (gA : Int) v0 I.length := by
        unfold gKy
        rw [← hxe]
        by_cases c : kk = 2 ∧ 2000000000000 ≤ x
        · rw [if_pos c, if_pos c]
        · rw [if_neg c, if_neg c]
          cases qMk I (gA : Int) v0 I.length <;> rfl
      have z1 : ∀ b j, b ≠ 84 → ¬ (87 ≤ b ∧ b ≤ 92) → ¬ (b = 83 ∧ (j = 6 ∨ j = 7)) → b ≠ 103 → G1 b j = G b j := fun b j y1 y2 y3 _ => e2 b j y1 y2 y3
      by_cases c2 : kk = 2 ∧ 1000000000000 < x
      · -- a word is left out
        have c2' : kk = 2 ∧ 2000000000000 ≤ x := ⟨c2.1, by rcases hxb (by omega) with q | q <;> omega⟩
        rw [if_neg (fun z => z (by omega)), if_neg (by omega)] at e0
        unfold c167_85 at e0
        rw [if_pos (show ¬ (1 : Int) = 0 by decide)] at e0
        exact go G1 fd al h1.1.2.1 z1 (fun _ _ _ _ => rfl) e0 (skip (by rw [ky, if_pos c2']; exact fun z => by cases z))
      · have c2' : ¬ (kk = 2 ∧ 2000000000000 ≤ x) := fun y => c2 ⟨y.1, by omega⟩
        have e0' : c167_18 f (fu + 1) 93 u fd al (i : Int) (S, G, m) = c167_85 (c167_18 f fu) f 93 u fd al (i : Int) x 0 (S, G1, m) := by
          rw [e0]
          by_cases c : kk = 2
          · rw [if_neg (fun z => z (by omega)), if_pos (by omega)]; rfl
          · rw [if_pos (by omega)]; rfl
        rw [if_neg c2'] at ky
        have hI1 : cIt G1 u K g I := hI.fx hu (fun b j y => f1 b j (by omega))
        have hV1 : ∀ c, c < I.length → (c : Int) ≠ (gA : Int) → cVl G1 (qVm (I.getD c [])) v0 := fun c hc hn j hj => e6 j (hBf j (qVm_in (hwI c hc hn).1.1 j hj))
        obtain ⟨b, G2, g1, g2, g3⟩ := k_142h (f := f) (m := m) (vl := v0) (by omega) hnI hwI h1.wy hI1 (by rw [f1 _ _ (by omega)]; exact h3) hV1
        have ps2 : cPs G2 := h1.1.2.1.ge (fun b j hz => g2 b j (by
          rcases hz with z | z | z | z | z | z | z | ⟨z, z1, z2, k, z3⟩ | z | z | z | ⟨k, z1, z2, z3⟩ <;> omega) (by
          rcases hz with z | z | z | z | z | z | z | ⟨z, z1, z2, k, z3⟩ | z | z | z | ⟨k, z1, z2, z3⟩ <;> omega))
        have z2 : ∀ b j, b ≠ 84 → ¬ (87 ≤ b ∧ b ≤ 92) → ¬ (b = 83 ∧ (j = 6 ∨ j = 7)) → b ≠ 103 → G2 b j = G b j := fun b j y1 y2 y3 y4 => by rw [g2 b j (by omega) y4, e2 b j y1 y2 y3]
        have y2 : ∀ a j, 83 ≤ a → a ≤ 91 → G2 a j = G1 a j := fun a j w1 w2 => g2 a j (by omega) (by omega)
        have i3 : cq_is 10 18 93 (S, G2, m) = some () := if_pos (s93 h.1.1)
        unfold c167_85 at e0'
        rw [if_neg (fun z => z rfl), o_gr (y := 83) (s93 h.1.1) (p93_0 h1.1.2.1), Option.bind_some, o_gr (y := 103) (s93 h.1.1) (p93_9 h1.1.2.1), Option.bind_some, i2, Option.bind_some, g1, Option.bind_some] at e0'
        rcases g3 with ⟨b1, ys, w1, w2⟩ | ⟨b0, w1⟩
        · subst b1
          have ly : ys.length = I.length := qMk_len _ _ w1
          have yz : ys.getD gA 0 = 0 := qMk_z _ _ w1 hg
          have h22 : G2 u 2 = (I.length : Int) := by rw [z2 _ _ (by omega) (by omega) (by omega) (by omega)]; exact hI.1
          have h23 : G2 u 3 = (gA : Int) := by rw [z2 _ _ (by omega) (by omega) (by omega) (by omega)]; exact h3
          obtain ⟨v5, t1, t2⟩ := k_165 (f := f) (m := m) (by omega) h.1.1 ps2 us h22 hnI h23
          have h105 : ∀ c, c < as.length → G2 105 c = as.getD c 0 := fun c hc => by rw [z2 _ _ (by omega) (by omega) (by omega) (by omega)]; exact hgv c hc
          rw [if_neg (show ¬ (1 : Int) = 0 by decide), i3, Option.bind_some, t1, Option.bind_some] at e0'
          rcases t2 with ⟨rfl, t3⟩ | ⟨rfl, c, t3, t4, t5⟩
          · have ey : ys = as.set gA 0 := by
              refine List.ext_getElem (by rw [List.length_set]; omega) (fun j h1 h2 => ?_)
              rw [List.length_set] at h2
              rw [List.getElem_set]
              by_cases e : gA = j
              · subst e
                rw [if_pos rfl]
                rw [getD_e h1] at yz
                exact yz
              · rw [if_neg e]
                have q := t3 j (by omega) (by omega)
                rw [w2 j (by omega), h105 j h2, getD_e h1, getD_e h2] at q
                exact q
            have kt : gKy kk (gO : Int) I (gA : Int) none v0 = some (as.set gA 0) := by rw [ky, w1, ey]
            rw [if_neg (show ¬ (1 : Int) = 0 by decide)] at e0'
            rcases hb with ⟨rfl, q2⟩ | ⟨rfl, q2, q3⟩
            · rw [if_pos rfl] at e0'
              unfold c167_134 at e0'
              refine go G2 1 x ps2 z2 y2 e0' (.inr ⟨rfl, ?_⟩)
              rw [gVs_s, if_pos kt, q2, List.nil_append, ← hxe]
              exact ⟨fun z => (by cases z), rfl⟩
            · have hl := gVs_len (key := gKy kk (gO : Int) I (gA : Int) none) (val := gXv kk (gO : Int)) W (as.set gA 0)
              have bd := gAg_bd (l := gVs (gKy kk (gO : Int) I (gA : Int) none) (gXv kk (gO : Int)) W (as.set gA 0)) hkk W.length hl (fun y hy => by
                obtain ⟨w, w3, w4⟩ := gVs_mem hy
                rw [w4]; exact hW w w3)
              have e160 := k_160 (f := f) (a := al) (b := x) (T := (S, G2, m)) hkk (by rw [q3]; omega)
              have h42 : G2 u 4 = kk + 9 := by rw [z2 _ _ (by omega) (by omega) (by omega) (by omega)]; exact h4
              rw [if_neg (show ¬ (1 : Int) = 0 by decide), o_gi us, Option.bind_some, h42, e160, Option.bind_some] at e0'
              unfold c167_134 at e0'
              refine go G2 1 _ ps2 z2 y2 e0' (.inr ⟨rfl, ?_⟩)
              rw [gVs_s, if_pos kt, gAg_s q2, ← hxe, ← q3]
              exact ⟨fun z => (List.append_ne_nil_of_right_ne_nil _ (List.cons_ne_nil _ _)) z, rfl⟩
          · rw [if_pos rfl] at e0'
            refine go G2 fd al ps2 z2 y2 e0' (skip (fun hy => t5 ?_))
            rw [ky, w1] at hy
            injection hy with hy
            rw [w2 c t3, h105 c (by omega), hy]
            simp only [List.getD_eq_getElem?_getD]
            rw [List.getElem?_set_ne (by omega)]
        · subst b0
          rw [if_pos rfl] at e0'
          exact go G2 fd al ps2 z2 y2 e0' (skip (by rw [ky, w1]; exact fun z => by cases z))
end
end
section
/-! THE CLASS: reason: gathersGiven() up to its end -/
section
variable {f q nq nx mp rp r p : Nat} {S : Nat → Nat × Nat × Nat} {G0 G : xG_} {m : Nat × Nat} {s : pPg} {xr cr : Nat → Nat} {M : Nat → List pRw} {as : List Int}
theorem k_167g {u : Nat} (hf : 100003010 < f) (hs : cSs S) (hP : cPgm S G0 q nq s) (hok : qOc s) (hM : cMr S G0 nx mp q rp s xr cr M) (hMo : okM8 s M) (hrp : 203 < rp) (hpn : p < s.1.length) (has : as.length = qN s p) (hr : r < s.2.2.2.2.1.length) (hu : G0 (q + 7) r = (u : Int)) (hhd : (s.2.2.2.2.1.getD r dRu).1 = (p : Int)) (hg : (s.2.2.2.2.1.getD r dRu).2.2.1.1 ≠ 0) (hp : cPs G) (hG : ∀ a j, 107 < a → G a j = G0 a j) (hgv : ∀ c, c < as.length → G 105 c = as.getD c 0) :
    ∃ G' fd al, c167 f 93 u rp (S, G, m) = c167_144 f 93 u fd al (S, G', m) ∧ cPs G' ∧ (∀ b j, ¬ (83 ≤ b ∧ b ≤ 92) → b ≠ 103 → G' b j = G b j) ∧ (fd = 0 ∨ fd = 1) ∧ (S u = (1, 6, 20) ∧ 278 < u ∧ G0 u 3 = ((s.2.2.2.2.1.getD r dRu).2.2.1.2.1.toNat : Int) ∧ (s.2.2.2.2.1.getD r dRu).2.2.1.2.1.toNat < as.length ∧ G0 u 4 = qG (s.2.2.2.2.1.getD r dRu) + 9) ∧
      ((∃ ks, gDs (s.2.2.2.2.1.getD r dRu).2.2.2.2.2 (s.2.2.2.2.1.getD r dRu).2.2.2.2.1.length M qO1 (qG (s.2.2.2.2.1.getD r dRu)) (s.2.2.2.2.1.getD r dRu).2.2.1.2.2 (s.2.2.2.2.1.getD r dRu).2.2.2.1 (s.2.2.2.2.1.getD r dRu).2.2.1.2.1.toNat ks as) ↔ fd = 1 ∧ al = as.getD (s.2.2.2.2.1.getD r dRu).2.2.1.2.1.toNat 0 ∧ ¬ (qG (s.2.2.2.2.1.getD r dRu) = 2 ∧ (1000000000000 < al ∨ al < -1000000000000))) := by
  obtain ⟨u', K, pl, ⟨e7, hu8, e0⟩, hR, hI, ⟨h6, hnv⟩, hnd, ⟨dd, hpB⟩, we⟩ := mx_rule hs hP hok hM hMo hrp hr
  have eu : u' = u := by omega
  subst eu
  have hm : s.2.2.2.2.1.getD r dRu ∈ s.2.2.2.2.1 := by rw [getD_e hr]; exact List.getElem_mem hr
  obtain ⟨w1, w2, w3, w4, w5, w6, w7, w8, w9⟩ := hok.1.1.2.2.2.2.2.2 _ hm
  obtain ⟨i1, i2, i3⟩ := ru_it hok hm
  have hsf := (hok.1.2.1 _ hm).1
  have hIl := (hok.1.2.1 _ hm).2
  generalize s.2.2.2.2.1.getD r dRu = ru at *
  have h16 : s.1.length ≤ 16 := hok.1.1.1
  have hN : ru.2.2.2.1.length = qN s p := by
    have := (qN_c hok.1.1 p).1
    rw [hhd] at hIl
    omega
  have hg10 : (10 ≤ ru.2.2.1.1 ∧ ru.2.2.1.1 ≤ 13) ∧ 0 ≤ ru.2.2.1.2.1 ∧ ru.2.2.1.2.1 < ru.2.2.2.1.length ∧ (ru.2.2.1.1 = 10 ∧ ru.2.2.1.2.2 = -1 ∨ ru.2.2.1.1 ≠ 10 ∧ 0 ≤ ru.2.2.1.2.2 ∧ ru.2.2.1.2.2 < ru.2.2.2.2.1.length) := by
    rcases w5.1 with z | z
    · exact absurd z.1 hg
    · exact z
  have hqg : qG ru = ru.2.2.1.1 - 9 := by unfold qG; rw [if_neg hg]
  obtain ⟨gA, hgA⟩ : ∃ gA : Nat, ru.2.2.1.2.1 = (gA : Int) := ⟨ru.2.2.1.2.1.toNat, by omega⟩
  have hGa : G0 u' 3 = (gA : Int) ∧ G0 u' 4 = qG ru + 9 ∧ (qG ru ≠ 1 → G0 u' 5 = ((ru.2.2.1.2.2.toNat : Nat) : Int)) := by
    rcases hI.2.2.2.2 with z | ⟨_, z2, _, z4, z5⟩
    · exact absurd z.1 hg
    · exact ⟨by rw [z2, hgA], by rw [z4, hqg]; omega, fun y => by rw [z5 (by omega)]; omega⟩
  rw [hgA] at i1
  have tgA : ru.2.2.1.2.1.toNat = gA := by omega
  have hn4 := hI.2.1
  have hrk : ∀ l, l < ru.2.2.2.2.2.length → (ru.2.2.2.2.2.getD l dLt).1 ≠ 3 → ∀ r ∈ M (ru.2.2.2.2.2.getD l dLt).2.1.toNat, 0 ≤ r.2 ∧ r.2 ≤ 1700 := fun l hl h3 => by
    obtain ⟨y1, y2⟩ := w9 _ (lt_in hl)
    have y3 := y2 h3
    have y4 : (ru.2.2.2.2.2.getD l dLt).2.1 < s.1.length := by
      rcases y1 with ⟨_, _, z, _⟩ | ⟨z, _⟩
      · exact z
      · exact absurd z h3
    exact (hMo (ru.2.2.2.2.2.getD l dLt).2.1.toNat (by omega)).2.2.2
  obtain ⟨G1, a1, a2, a3, a4, a5, a6, a7, a8, a9, a10, a11⟩ := k_130 (u := u') (fa := rp) (m := m) (G := G) (f := f) (br := 0) (by omega) hs hp (.inl rfl)
  have z1 : ∀ b j, ¬ (83 ≤ b ∧ b ≤ 92) → G1 b j = G b j := fun b j y => a2 b j (by omega) (by omega) (by omega) (by omega)
  have z10 : ∀ b j, 107 < b → G1 b j = G0 b j := fun b j y => by rw [z1 b j (by omega), hG b j y]
  have hE := we G1 0 (fun _ => 0) (fun _ => 1700) a3 (fun a j y => z10 a j y) a4 a5 a6 (fun l hl => ⟨a10 l hl, a11 l hl⟩)
  obtain ⟨V, k, Bf, x1, x2, x3, x4, x5, x6, _⟩ := ways_start hE a7 a8 (b := 0) (vl := fun _ => 0) ⟨a9, by decide, fun k hk => by rw [Nat.zero_testBit] at hk; cases hk⟩ w8 hsf hnd hpB
  obtain ⟨x7, x8⟩ := x6 rfl
  have hall : isAll ru.2.2.2.2.2 ru.2.2.2.2.1.length M qO1 (V.map (vec ru.2.2.2.2.1.length)) := all_of (np := s.1.length) (lo := fun _ => 0) (hi := fun _ => 1700) (fun y hy => (w9 y hy).1) x4 (ways_bits hE a7 a8 a9 x3) hrk (fun v hv => (x5 v hv).2) x7 (fun w hw' => x8 w (fun j hj => by rw [Nat.zero_testBit] at hj; cases hj) hw')
  have hx203 : ∀ p, p < s.1.length → 203 < xr p := fun p hp => (hM.2.2.2.2 p hp).2.1.1
  obtain ⟨G2, fd, al, r1, r2, r3, r4⟩ := k_167l (f := f) (m := m) (I := ru.2.2.2.1) (g := ru.2.2.1) (as := as) (gA := gA) (gO := ru.2.2.1.2.2.toNat) (kk := qG ru) hf hrp hx203 hn4 i1 (by omega) hnv (by omega) (by omega) (fun y => by omega) x4 V [] k 0 f G1 0 0 hE x3 x1 (by omega) (by omega) (by show 0 + V.length ≤ 1000000; omega) (hI.fx hu8 (fun b j y => z10 b j (by omega))) (by rw [z10 _ _ (by omega)]; exact hGa.1) (by rw [z10 _ _ (by omega)]; exact hGa.2.1) (fun y => by rw [z10 _ _ (by omega)]; exact hGa.2.2 y) (fun c hc => by rw [z1 _ _ (by omega)]; exact hgv c hc) (fun v hv => by cases hv) (.inl ⟨rfl, rfl⟩)
  rw [List.nil_append] at r4
  have i83 : cq_is 9 14 83 (S, G, m) = some () := if_pos (s83 hs)
  have st : c167 f 93 u' rp (S, G, m) = c167_144 f 93 u' fd al (S, G2, m) := by
    unfold c167
    rw [o_gr (y := 83) (s93 hs) (p93_0 hp), Option.bind_some, i83, Option.bind_some, a1, Option.bind_some]
    exact r1
  have ed : ∀ ks, gDs ru.2.2.2.2.2 ru.2.2.2.2.1.length M qO1 (qG ru) ((ru.2.2.1.2.2.toNat : Nat) : Int) ru.2.2.2.1 gA ks as ↔ gDs ru.2.2.2.2.2 ru.2.2.2.2.1.length M qO1 (qG ru) ru.2.2.1.2.2 ru.2.2.2.1 gA ks as := fun ks => by
    by_cases c1 : qG ru = 1
    · rw [c1]; exact gDs_1 _ _
    · have : ((ru.2.2.1.2.2.toNat : Nat) : Int) = ru.2.2.1.2.2 := by omega
      rw [this]
  have gi := gds_iff (kk := qG ru) (gO := ((ru.2.2.1.2.2.toNat : Nat) : Int)) (I := ru.2.2.2.1) (gA := gA) (as := as) hall (by omega) (by omega)
  rw [gVs_vec (fun k hk hn => (i1 k hk hn).1) (fun y => by omega)] at gi
  refine ⟨G2, fd, al, st, r3, fun b j y1 y2 => by rw [r2 b j (by omega) (by omega) (by omega) y2, z1 b j y1], ?_, ⟨hR.1.1, hu8, by rw [tgA]; exact hGa.1, by omega, hGa.2.1⟩, ?_⟩
  · rcases r4 with ⟨z, _⟩ | ⟨z, _⟩
    · exact .inl z
    · exact .inr z
  · rw [tgA]
    have e1 : (∃ ks, gDs ru.2.2.2.2.2 ru.2.2.2.2.1.length M qO1 (qG ru) ru.2.2.1.2.2 ru.2.2.2.1 gA ks as) ↔ ∃ ks, gDs ru.2.2.2.2.2 ru.2.2.2.2.1.length M qO1 (qG ru) ((ru.2.2.1.2.2.toNat : Nat) : Int) ru.2.2.2.1 gA ks as := ⟨fun ⟨ks, h⟩ => ⟨ks, (ed ks).mpr h⟩, fun ⟨ks, h⟩ => ⟨ks, (ed ks).mp h⟩⟩
    rw [e1, gi]
    rcases r4 with ⟨rfl, q⟩ | ⟨rfl, q1, q2⟩
    · exact ⟨fun z => absurd q z.1, fun z => absurd z.1 (by decide)⟩
    · rw [← q2]
      constructor
      · rintro ⟨_, y2, y3⟩
        exact ⟨rfl, y2, by rw [y2]; exact y3⟩
      · rintro ⟨_, y2, y3⟩
        exact ⟨q1, y2, by rw [← y2]; exact y3⟩
end
end
section
/-! THE CLASS: reason: gathersGiven() whole -/
section
variable {f u gA : Nat} {S : Nat → Nat × Nat × Nat} {G : xG_} {m : Nat × Nat} {kk fd al y : Int}
theorem st_167e (hs : cSs S) (hp : cPs G) (us : S u = (1, 6, 20)) (h3 : G u 3 = (gA : Int)) (hgA : gA < 4) (h4 : G u 4 = kk + 9) (h5 : G 105 gA = y) (hfd : fd = 0 ∨ fd = 1) : c167_144 f 93 u fd al (S, G, m) = some ((if fd = 1 ∧ al = y ∧ ¬ (kk = 2 ∧ (1000000000000 < al ∨ al < -1000000000000)) then 1 else 0), (S, G, m)) := by
  have h10 : ¬ (1 : Int) = 0 := by decide
  rcases hfd with rfl | rfl
  · rw [if_neg (fun z => absurd z.1 (by decide))]
    unfold c167_144 c167_176 c167_177
    simp (disch := omega) only [cq_gi, cq_gr, cq_a, cq_s, cq_p, cq_pr, cq_is, cq_ar, cq_ab, cq_ln, xq_nz, Option.bind_some, xup2_n, xup2_s, Int.toNat_natCast, Int.reduceToNat, if_pos, if_neg, true_and, and_true, and_self, eq_self, if_true, reduceIte, not_true_eq_false, not_false_eq_true, or_true, true_or, h10]
  · have e := st_397 (f := f) (m := m) (x := al) us h4
    by_cases co : kk = 2 ∧ (1000000000000 < al ∨ al < -1000000000000)
    · rw [if_pos co] at e
      rw [if_neg (fun z => z.2.2 co)]
      unfold c167_144 c167_176 c167_177
      simp (disch := omega) only [cq_gi, cq_gr, cq_a, cq_s, cq_p, cq_pr, cq_is, cq_ar, cq_ab, cq_ln, xq_nz, Option.bind_some, xup2_n, xup2_s, Int.toNat_natCast, Int.reduceToNat, if_pos, if_neg, true_and, and_true, and_self, eq_self, if_true, reduceIte, not_true_eq_false, not_false_eq_true, or_true, true_or, e, h10]
    · rw [if_neg co] at e
      by_cases ca : al = y
      · subst ca
        rw [if_pos ⟨rfl, rfl, co⟩]
        unfold c167_144 c167_177
        simp (disch := omega) only [cq_gi, cq_gr, cq_a, cq_s, cq_p, cq_pr, cq_is, cq_ar, cq_ab, cq_ln, xq_nz, Option.bind_some, xup2_n, xup2_s, Int.toNat_natCast, Int.reduceToNat, if_pos, if_neg, true_and, and_true, and_self, eq_self, if_true, reduceIte, not_true_eq_false, not_false_eq_true, or_true, true_or, e, h10, s93 hs, s105 hs, p93_11 hp, us, h3, h5]
      · rw [if_neg (fun z => ca z.2.1)]
        unfold c167_144 c167_176 c167_177
        simp (disch := omega) only [cq_gi, cq_gr, cq_a, cq_s, cq_p, cq_pr, cq_is, cq_ar, cq_ab, cq_ln, xq_nz, Option.bind_some, xup2_n, xup2_s, Int.toNat_natCast, Int.reduceToNat, if_pos, if_neg, true_and, and_true, and_self, eq_self, if_true, reduceIte, not_true_eq_false, not_false_eq_true, or_true, true_or, e, h10, s93 hs, s105 hs, p93_11 hp, us, h3, h5, ca]
end
theorem gg : ∀ (S : Nat → Nat × Nat × Nat) (m : Nat × Nat), gG2 f00 S m := by
  intro S m q nq nx mp rp s xr cr M p as G0 hs hP hok hM hMo hrp hq hpn has hav r u G hr hu hhd hg hp hG hq1 hgv
  obtain ⟨G', fd, al, e1, e2, e3, e4, ⟨us, hu8, h3, h3l, h4⟩, e5⟩ := k_167g (f := f00) (m := m) (by show 100003010 < 100003011; omega) hs hP hok hM hMo hrp hpn has hr hu hhd hg hp hG hgv
  have h4n := (qN_c hok.1.1 p).2
  have z : ∀ b j, 107 < b → G' b j = G0 b j := fun b j y => by rw [e3 b j (by omega) (by omega), hG b j y]
  have e6 := st_167e (f := f00) (m := m) (al := al) (kk := qG (s.2.2.2.2.1.getD r dRu)) (gA := (s.2.2.2.2.1.getD r dRu).2.2.1.2.1.toNat) (y := as.getD (s.2.2.2.2.1.getD r dRu).2.2.1.2.1.toNat 0) hs e2 us (by rw [z _ _ (by omega)]; exact h3) (by omega) (by rw [z _ _ (by omega)]; exact h4) (by rw [e3 _ _ (by omega) (by omega)]; exact hgv _ h3l) e4
  by_cases c : fd = 1 ∧ al = as.getD (s.2.2.2.2.1.getD r dRu).2.2.1.2.1.toNat 0 ∧ ¬ (qG (s.2.2.2.2.1.getD r dRu) = 2 ∧ (1000000000000 < al ∨ al < -1000000000000))
  · rw [if_pos c] at e6
    exact ⟨1, G', e1.trans e6, e2, e3, .inl ⟨rfl, e5.mpr c⟩⟩
  · rw [if_neg c] at e6
    exact ⟨0, G', e1.trans e6, e2, e3, .inr ⟨rfl, fun y => c (e5.mp y)⟩⟩
end
