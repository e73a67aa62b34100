/-! THE CLASS: gather(), all WAYS of a turn -/
section
variable {f u np nv a p fn t n gO gA : Nat} {S : Nat → Nat × Nat × Nat} {m : Nat × Nat} {K : pCd} {Ls : List pLt} {pl : List Nat} {br : Int} {qn xp cp : Nat → Nat} {R : Nat → List pRw} {lo hi : Nat → Int} {Bf : Nat} {I : List pCd} {g : Int × Int × Int} {kk : Int} {last : Option (List Int)} {r4 : Nat → Nat → Int → Int → xT_ → Option (Int × xT_)}
theorem gVs_mem {α : Type} {key : α → Option (List Int)} {val : α → Int} {W : List α} {xs : List Int} {x : Int} (h : x ∈ gVs key val W xs) : ∃ v ∈ W, x = val v := by
  unfold gVs at h
  obtain ⟨v, h1, h2⟩ := List.mem_filterMap.mp h
  refine ⟨v, h1, ?_⟩
  by_cases c : key v = some xs
  · rw [if_pos c] at h2; injection h2 with h2; exact h2.symm
  · rw [if_neg c] at h2; cases h2
theorem gIw_bd {α : Type} {key : α → Option (List Int)} {val : α → Int} {W : List α} {L : List pRw} {mo : Int} {N : Nat} (hkk : kk = 1 ∨ kk = 2 ∨ kk = 3 ∨ kk = 4) (h : gIw N kk key val W L mo) (hW : W.length ≤ 1000000) (hv : ∀ v ∈ W, -3000000000000 ≤ val v ∧ val v ≤ 3000000000000) : ∀ y ∈ L, -4000000000000000000 ≤ y.2 ∧ y.2 ≤ 4000000000000000000 := fun y hy => by
  rw [(h.2.2.2.1 y hy).2]
  have := gAg_bd (kk := kk) (l := gVs key val W y.1) hkk 1000000 (by have := gVs_len (key := key) (val := val) W y.1; omega) (fun x hx => by
    obtain ⟨v, v1, rfl⟩ := gVs_mem hx
    exact hv v v1)
  omega
theorem k_157p (hf : 100003010 < f) (hxp : ∀ q, q < np → 103 < xp q) (hnI : I.length = n) (hn : n ≤ 4) (hwI : wIe nv I (gA : Int)) (hBf : ∀ j, j < nv → Bf.testBit j = true) (hkk : kk = 1 ∨ kk = 2 ∨ kk = 3 ∨ kk = 4) (hnv : nv ≤ 8) : ∀ (V : List (Nat → Int)) (k i fu : Nat) (G : xG_) (W : List (Nat → Int)) (L : List pRw) (mo : Int), cWE S G u K Ls pl 94 fn np nv a br qn xp cp R lo hi → wSt8 Ls pl a br R lo hi G Bf V k → k ≤ 100000000 → V.length < fu → i + V.length < 10000000 → cIt G u K g I → G u 3 = (gA : Int) → G u 4 = kk + 9 → (kk ≠ 1 → G u 5 = (gO : Int) ∧ gO < nv) → cLa G n t last → cGr S G n L → gIw 512 kk (gKy kk (gO : Int) I (gA : Int) last) (gXv kk (gO : Int)) W L mo → (mo = 1 → kk = 2) → W.length + V.length ≤ 1000000 → (∀ v, v ∈ W ∨ v ∈ V → -3000000000000 ≤ gXv kk (gO : Int) v ∧ gXv kk (gO : Int) v ≤ 3000000000000) →
    ∃ G', cWE S G' u K Ls pl 94 fn np nv a br qn xp cp R lo hi ∧ (∀ b j, ¬ (83 ≤ b ∧ b ≤ 92) → ¬ (99 ≤ b ∧ b ≤ 103) → G' b j = G b j) ∧
      ((∃ L' mo', c157_43 r4 f fu 93 u mo (t : Int) (i : Int) (S, G, m) = c157_185 r4 f 93 u mo' (t : Int) (S, G', m) ∧ gIw 512 kk (gKy kk (gO : Int) I (gA : Int) last) (gXv kk (gO : Int)) (W ++ V) L' mo' ∧ (mo' = 1 → kk = 2) ∧ cGr S G' n L') ∨
       (kk ≠ 2 ∧ c157_43 r4 f fu 93 u mo (t : Int) (i : Int) (S, G, m) = some (0, (S, G', m)) ∧ ∃ Ks : List (List Int), Ks.Nodup ∧ 512 < Ks.length ∧ ∀ ks ∈ Ks, ∃ v, v ∈ W ++ V ∧ gKy kk (gO : Int) I (gA : Int) last v = some ks)) := by
  intro V
  induction V with
  | nil =>
    intro k i fu G W L mo h hst hk hfu hi7 hI h3 h4 h5 hla hgr hiv hmk hW hval
    obtain ⟨fu, rfl⟩ : ∃ t, fu = t + 1 := ⟨fu - 1, by omega⟩
    rcases k_next (m := m) hf h hst hk with ⟨G1, e1, e2, e3⟩ | ⟨G1, v, V', k', e1, e2, e3, _⟩
    · have st : c157_43 r4 f (fu + 1) 93 u mo (t : Int) (i : Int) (S, G, m) = _ := (st_157a (r4 := r4) (r43 := c157_43 r4 f fu) (u := u) (mo := mo) (t := t) h.1.1 h.1.2.1 (by simp at hi7; omega) e1).trans st_157z
      refine ⟨G1, h.ge e2, fun b j y1 _ => e2 b j (by omega) (by omega) (by omega), .inl ⟨L, mo, st, by rw [List.append_nil]; exact hiv, hmk, hgr.ge (fun b j _ _ => e2 b j (by omega) (by omega) (by omega))⟩⟩
    · cases e3
  | cons v0 V ih =>
    intro k i fu G W L mo h hst hk hfu hi7 hI h3 h4 h5 hla hgr hiv hmk hW hval
    rw [List.length_cons] at hfu hi7 hW
    obtain ⟨fu, rfl⟩ : ∃ t, fu = t + 1 := ⟨fu - 1, by omega⟩
    have hu := h.2.1.2.2.2.2.1
    have hb := gIw_bd hkk hiv (by omega) (fun v hv => hval v (.inl hv))
    obtain ⟨G1, k', g1, g2, g3, g4, g5⟩ := k_157v (r4 := r4) (r43 := c157_43 r4 f fu) (m := m) (i := i) (t := t) (mo := mo) hf hxp hnI hn hwI hBf h hst hk (by omega) hI h3 h4 hkk h5 hnv hgr hiv.1 hb hla hiv.2.2.1 hmk
    have ew : ∀ X : List (Nat → Int), W ++ v0 :: X = (W ++ [v0]) ++ X := fun X => by rw [List.append_assoc]; rfl
    -- behind this WAY
    have rest : ∀ (L1 : List pRw) (mo1 : Int), cGr S G1 n L1 → gIw 512 kk (gKy kk (gO : Int) I (gA : Int) last) (gXv kk (gO : Int)) (W ++ [v0]) L1 mo1 → (mo1 = 1 → kk = 2) → c157_43 r4 f (fu + 1) 93 u mo (t : Int) (i : Int) (S, G, m) = c157_43 r4 f fu 93 u mo1 (t : Int) ((i + 1 : Nat) : Int) (S, G1, m) → ∃ G', cWE S G' u K Ls pl 94 fn np nv a br qn xp cp R lo hi ∧ (∀ b j, ¬ (83 ≤ b ∧ b ≤ 92) → ¬ (99 ≤ b ∧ b ≤ 103) → G' b j = G b j) ∧
      ((∃ L' mo', c157_43 r4 f (fu + 1) 93 u mo (t : Int) (i : Int) (S, G, m) = c157_185 r4 f 93 u mo' (t : Int) (S, G', m) ∧ gIw 512 kk (gKy kk (gO : Int) I (gA : Int) last) (gXv kk (gO : Int)) (W ++ v0 :: V) L' mo' ∧ (mo' = 1 → kk = 2) ∧ cGr S G' n L') ∨
       (kk ≠ 2 ∧ c157_43 r4 f (fu + 1) 93 u mo (t : Int) (i : Int) (S, G, m) = some (0, (S, G', m)) ∧ ∃ Ks : List (List Int), Ks.Nodup ∧ 512 < Ks.length ∧ ∀ ks ∈ Ks, ∃ v, v ∈ W ++ v0 :: V ∧ gKy kk (gO : Int) I (gA : Int) last v = some ks)) := by
      intro L1 mo1 q1 q2 q3 q4
      rw [ew V, q4]
      obtain ⟨G2, i1, i2, i3⟩ := ih k' (i + 1) fu G1 (W ++ [v0]) L1 mo1 g1 g2 (by omega) (by omega) (by omega) (hI.fx hu (fun b j y => g4 b j (by omega) (by omega))) (by rw [g4 _ _ (by omega) (by omega)]; exact h3) (by rw [g4 _ _ (by omega) (by omega)]; exact h4) (by rw [g4 _ _ (by omega) (by omega)]; exact h5) (by
        rcases hla with q | ⟨ys, y1, y2, y3, y4⟩
        · exact .inl q
        · exact .inr ⟨ys, y1, y2, y3, fun c hc => by rw [g4 _ _ (by omega) (by omega)]; exact y4 c hc⟩) q1 q2 q3 (by rw [List.length_append, List.length_singleton]; omega) (fun v hv => by
        rcases hv with hv | hv
        · rcases List.mem_append.mp hv with y | y
          · exact hval v (.inl y)
          · exact hval v (.inr (by rw [List.mem_singleton.mp y]; exact List.mem_cons_self))
        · exact hval v (.inr (List.mem_cons_of_mem _ hv)))
      exact ⟨G2, i1, fun b j y1 y2 => (i2 b j y1 y2).trans (g4 b j y1 y2), i3⟩
    rcases g5 with ⟨e1, e2, e3⟩ | ⟨xs, e1, ⟨i', e2, e3, e4, e5⟩ | ⟨e2, i', e3, e4, e5, e6, e7⟩⟩
    · exact rest L mo e2 (hiv.skip e1) hmk e3
    · exact rest _ mo e4 (hiv.upd e1 e2 e3) hmk e5
    · have hnew := hiv.new e1 e2 e3 e4 e5
      by_cases c : L.length = 512
      · rw [if_pos c] at e7 hnew
        by_cases c2 : kk = 2
        · rw [if_pos c2] at e7
          exact rest _ 1 e6 hnew (fun _ => c2) e7
        · rw [if_neg c2] at e7
          refine ⟨G1, g1, g4, .inr ⟨c2, e7, xs :: L.map (·.1), ?_, by rw [List.length_cons, List.length_map]; omega, fun ks hks => ?_⟩⟩
          · refine List.nodup_cons.mpr ⟨fun q => ?_, ?_⟩
            · obtain ⟨r, r1, r2⟩ := List.mem_map.mp q
              exact e2 r r1 r2
            · rw [List.nodup_iff_pairwise_ne, List.pairwise_map]
              exact hiv.1.imp (fun {r1 r2} hab => fun (e : r1.1 = r2.1) => vLt_irr r2.1 (by have hab' : vLt r1.1 r2.1 := hab; rw [e] at hab'; exact hab'))
          · rcases List.mem_cons.mp hks with e | e
            · subst e; exact ⟨v0, List.mem_append.mpr (.inr List.mem_cons_self), e1⟩
            · obtain ⟨r, r1, r2⟩ := List.mem_map.mp e
              obtain ⟨v, v1, v2⟩ := gVs_ne (hiv.2.2.2.1 r r1).1
              exact ⟨v, List.mem_append.mpr (.inl v1), by rw [v2, r2]⟩
      · rw [if_neg c] at e7 hnew
        exact rest _ mo e6 hnew hmk e7
end
