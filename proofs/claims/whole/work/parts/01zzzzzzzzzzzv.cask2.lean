/-! THE CLASS: ask(), its loop -/
/-- a row that is put where it belongs -/
theorem ins_s {R : List pRw} {kl : List Int} {rk : Int} {lo : Nat} (hs : R.Pairwise rwLt) (hl : ∀ r ∈ R, r.1.length = kl.length) (hsr : isSr R kl 0 lo) (hn : ∀ r ∈ R, r.1 ≠ kl) : (R.take lo ++ (kl, rk) :: R.drop lo).Pairwise rwLt ∧ ∀ z, z ∈ R.take lo ++ (kl, rk) :: R.drop lo ↔ z ∈ R ∨ z = (kl, rk) := by
  have tk : ∀ i, i < R.length → (R.getD i dRw).1.take kl.length = (R.getD i dRw).1 := fun i hi => by
    have := hl _ (show R.getD i dRw ∈ R by rw [getD_e hi]; exact List.getElem_mem hi)
    rw [← this, List.take_length]
  have below : ∀ z ∈ R.take lo, rwLt z (kl, rk) := fun z hz => by
    obtain ⟨i, hi, ei⟩ := List.getElem_of_mem hz
    rw [List.length_take] at hi
    rw [List.getElem_take] at ei
    have hiR : i < R.length := by omega
    have := hsr.2.1 i (by omega)
    rw [tk i hiR, getD_e hiR, ei] at this
    have hzl := hl z (List.mem_of_mem_take hz)
    exact (vLt_iff (by show z.1.length = kl.length; exact hzl)).mpr this
  have above : ∀ z ∈ R.drop lo, rwLt (kl, rk) z := fun z hz => by
    obtain ⟨i, hi, ei⟩ := List.getElem_of_mem hz
    rw [List.length_drop] at hi
    rw [List.getElem_drop] at ei
    have hiR : lo + i < R.length := by omega
    have := hsr.2.2 (lo + i) (by omega) hiR
    rw [tk _ hiR, getD_e hiR, ei] at this
    have hzR : z ∈ R := List.mem_of_mem_drop hz
    have hzl := hl z hzR
    refine (vLt_iff (by show kl.length = z.1.length; exact hzl.symm)).mpr ?_
    show vCmp kl z.1 < 0
    rw [vCmp_anti]
    have hne : vCmp z.1 kl ≠ 0 := fun q => hn z hzR (vCmp_eq hzl q)
    omega
  refine ⟨List.pairwise_append.mpr ⟨hs.sublist (List.take_sublist _ _), List.pairwise_cons.mpr ⟨above, hs.sublist (List.drop_sublist _ _)⟩, fun z hz w hw => ?_⟩, fun z => ?_⟩
  · rcases List.mem_cons.mp hw with q | q
    · rw [q]; exact below z hz
    · exact rwLt_tr (below z hz) (above w q)
  · rw [List.mem_append, List.mem_cons]
    constructor
    · rintro (q | q | q)
      · exact .inl (List.mem_of_mem_take q)
      · exact .inr q
      · exact .inl (List.mem_of_mem_drop q)
    · rintro (q | q)
      · have := q
        rw [← List.take_append_drop lo R, List.mem_append] at this
        exact this.imp id .inr
      · exact .inr (.inl q)
section
variable {f u fa fn np nv a x y : Nat} {S : Nat → Nat × Nat × Nat} {G G' : xG_} {m : Nat × Nat} {K : pCd} {Ls : List pLt} {pl : List Nat} {br : Int} {qn xp cp : Nat → Nat} {R : Nat → List pRw} {lo hi : Nat → Int} {Bf : Nat}
/-- rows apart from those that are made -/
theorem cWE.out (h : cWE S G u K Ls pl fa fn np nv a br qn xp cp R lo hi) (hx : ∀ p, p < np → ∀ b, xp p ≤ b → b ≤ xp p + 2 → ∀ j, G' b j = G b j) (hp : cPs G') (hw : ∀ a j, 83 ≤ a → a ≤ 92 → G' a j = G a j) (hfa : ∀ j, G' fa j = G fa j) (hu : ∀ a j, 278 < a → G' a j = G a j) : cWE S G' u K Ls pl fa fn np nv a br qn xp cp R lo hi := by
  obtain ⟨⟨a1, a2, a3, a4, a5, a6, a7, a8⟩, b1, c1, ⟨d1, d2⟩, e1, f1⟩ := h
  have hu0 := b1.2.2.2.2.1
  refine ⟨⟨a1, hp, by rw [hw _ _ (by omega) (by omega)]; exact a3, by rw [hw _ _ (by omega) (by omega)]; exact a4, by rw [hw _ _ (by omega) (by omega)]; exact a5, a6, a7, a8⟩, b1.fx hu, c1, ⟨d1, fun k hk => ?_⟩, fun p hp => ?_, fun l hl => ?_⟩
  · rw [hu _ _ (by omega), hu _ _ (by omega)]; exact d2 k hk
  · obtain ⟨q1, q2, q3, q4⟩ := e1 p hp
    exact ⟨by rw [hfa]; exact q1, q2, q3.ge (fun _ _ _ => rfl) (fun j => hx p hp _ (by omega) (by omega) j) (fun j => hx p hp _ (by omega) (by omega) j) (fun j => hx p hp _ (by omega) (by omega) j), q4⟩
  · rw [hw _ _ (by omega) (by omega), hw _ _ (by omega) (by omega)]; exact f1 l hl
theorem k_179l (hf : 100003010 < f) (hx : x = 221 ∨ x = 224) (hxp : ∀ p, p < np → xp p + 2 < 221 ∨ 226 < xp p) (hfa : fa < 221 ∨ 226 < fa) (hnv : nv ≤ 8) (hBf : ∀ j, j < nv → Bf.testBit j = true) : ∀ (V : List (Nat → Int)) (k i fu : Nat) (G : xG_) (F : List pRw), cWE S G u K Ls pl fa fn np nv a br qn xp cp R lo hi → wSt8 Ls pl a br R lo hi G Bf V k → k ≤ 100000000 → V.length < fu → i + V.length < 10000000 → cRw S G x nv 500 F → F.Pairwise rwLt → (∀ r ∈ F, r.2 = 0) → ∃ G', (∀ a j, ¬ (83 ≤ a ∧ a ≤ 92) → ¬ (x ≤ a ∧ a ≤ x + 2) → G' a j = G a j) ∧ cPs G' ∧
    ((∃ F', c179_29 f fu 64 x (i : Int) (S, G, m) = c179_101 f 64 x (S, G', m) ∧ cRw S G' x nv 500 F' ∧ F'.Pairwise rwLt ∧ (∀ r ∈ F', r.2 = 0) ∧ ∀ w, (∃ r ∈ F', r.1 = w) ↔ (∃ r ∈ F, r.1 = w) ∨ ∃ v ∈ V, vec nv v = w) ∨
     (c179_29 f fu 64 x (i : Int) (S, G, m) = some (-6000, (S, G', m)) ∧ ∃ W : List (List Int), W.Nodup ∧ 500 < W.length ∧ ∀ w ∈ W, (∃ r ∈ F, r.1 = w) ∨ ∃ v ∈ V, vec nv v = w)) := by
  intro V
  induction V with
  | nil =>
    intro k i fu G F h hs hk hfu hii hF hFs hF0
    obtain ⟨fu, rfl⟩ : ∃ t, fu = t + 1 := ⟨fu - 1, by omega⟩
    rcases k_next (m := m) hf h hs hk with ⟨G1, e1, e2, e3⟩ | ⟨G1, v, V', k', e1, e2, e3, _⟩
    · have hp1 : cPs G1 := (h.ge e2).1.2.1
      have st : c179_29 f (fu + 1) 64 x (i : Int) (S, G, m) = _ := st_179z (r29 := c179_29 f fu) h.1.1 h.1.2.1 (by simp at hii; omega) e1
      refine ⟨G1, fun a j y1 y2 => e2 a j (by omega) (by omega) (by omega), hp1, .inl ⟨F, st, hF.ge (fun _ _ _ => rfl) (fun j => e2 _ _ (by omega) (by omega) (by omega)) (fun j => e2 _ _ (by omega) (by omega) (by omega)) (fun j => e2 _ _ (by omega) (by omega) (by omega)), hFs, hF0, fun w => ⟨.inl, fun q => q.elim id (fun ⟨v, v1, _⟩ => nomatch v1)⟩⟩⟩
    · cases e3
  | cons v0 V ih =>
    intro k i fu G F h hs hk hfu hii hF hFs hF0
    rw [List.length_cons] at hfu hii
    obtain ⟨fu, rfl⟩ : ∃ t, fu = t + 1 := ⟨fu - 1, by omega⟩
    rcases k_next (m := m) hf h hs hk with ⟨G1, e1, e2, e3⟩ | ⟨G1, v, V', k', e1, e2, e3, e4, e5, e6⟩
    · cases e3
    · injection e3 with q1 q2
      subst q1 q2
      have h1 := h.ge e2
      have hp1 : cPs G1 := h1.1.2.1
      have hF1 : cRw S G1 x nv 500 F := hF.ge (fun _ _ _ => rfl) (fun j => e2 _ _ (by omega) (by omega) (by omega)) (fun j => e2 _ _ (by omega) (by omega) (by omega)) (fun j => e2 _ _ (by omega) (by omega) (by omega))
      have ei : xwr ((i : Int) + 1) = ((i + 1 : Nat) : Int) := by rw [xwr_g _ (by omega) (by omega)]; omega
      have hK : cKl S G1 84 (vec nv v0) := ⟨⟨8, s84 h.1.1, by rw [vec_len]; exact hnv⟩, fun c hc => by
        rw [vec_len] at hc
        rw [vec_get hc]
        exact (e6 c (hBf c hc)).2.1⟩
      have hFl : ∀ r ∈ F, r.1.length = (vec nv v0).length := fun r hr => by
        obtain ⟨j, hj, ej⟩ := List.getElem_of_mem hr
        have := (hF.2.2.2.2.2.2.2 j hj).1
        rw [getD_e hj, ej] at this
        rw [vec_len]; exact this
      obtain ⟨w, w1, l0, w2, w3⟩ := k_74 (f := f) (m := m) (by omega) hF1 hFs vec_len hK
      have h500 := hF.2.2.2.2.1
      have hl0 := w2.1
      have wx : ∀ {G2 : xG_}, (∀ a j, ¬ (a = x ∧ j ≤ 1) → a ≠ x + 1 → a ≠ x + 2 → G2 a j = G1 a j) → cPs G2 := fun {G2} hz => hp1.ge (fun a j hy => by
        have : ¬ (a = x ∧ j ≤ 1) ∧ a ≠ x + 1 ∧ a ≠ x + 2 := by
          rcases hx with rfl | rfl <;> (rcases hy with z | z | z | z | z | z | z | ⟨z, z1, z2, k, z3⟩ | z | z | z | ⟨k, z1, z2, z3⟩ <;> omega)
        exact hz a j this.1 this.2.1 this.2.2)
      rcases w3 with ⟨z1, z2, z3⟩ | ⟨z1, z2⟩
      · have st : c179_29 f (fu + 1) 64 x (i : Int) (S, G, m) = _ := st_179f (r29 := c179_29 f fu) h.1.1 h.1.2.1 hp1 (by omega) e1 hF.1 w1 (by omega) ei
        obtain ⟨G2, i1, i2, i3⟩ := ih k' (i + 1) fu G1 F h1 e5 (by omega) (by omega) (by omega) hF1 hFs hF0
        have hin : ∃ r ∈ F, r.1 = vec nv v0 := ⟨F.getD l0 dRw, by rw [getD_e z2]; exact List.getElem_mem z2, z3⟩
        refine ⟨G2, fun a j y1 y2 => by rw [i1 a j y1 y2, e2 a j (by omega) (by omega) (by omega)], i2, ?_⟩
        rcases i3 with ⟨F', j1, j2, j3, j4, j5⟩ | ⟨j1, W, j2, j3, j4⟩
        · refine .inl ⟨F', st.trans j1, j2, j3, j4, fun w => (j5 w).trans ⟨fun q => q.imp id (fun ⟨v, v1, v2⟩ => ⟨v, List.mem_cons_of_mem _ v1, v2⟩), fun q => ?_⟩⟩
          rcases q with q | ⟨v, v1, v2⟩
          · exact .inl q
          · rcases List.mem_cons.mp v1 with e | e
            · subst e; rw [← v2]; exact .inl hin
            · exact .inr ⟨v, e, v2⟩
        · exact .inr ⟨st.trans j1, W, j2, j3, fun w hw => (j4 w hw).imp id (fun ⟨v, v1, v2⟩ => ⟨v, List.mem_cons_of_mem _ v1, v2⟩)⟩
      · by_cases c500 : F.length = 500
        · have st : c179_29 f (fu + 1) 64 x (i : Int) (S, G, m) = _ := st_179t (r29 := c179_29 f fu) h.1.1 h.1.2.1 hp1 (by omega) e1 hF.1 w1 (by omega) (by rw [hF1.2.2.2.1.2.1, c500]; rfl)
          refine ⟨G1, fun a j y1 y2 => e2 a j (by omega) (by omega) (by omega), hp1, .inr ⟨st, vec nv v0 :: F.map (·.1), ?_, by rw [List.length_cons, List.length_map]; omega, fun w hw => ?_⟩⟩
          · refine List.nodup_cons.mpr ⟨fun q => ?_, ?_⟩
            · obtain ⟨r, r1, r2⟩ := List.mem_map.mp q
              exact z2 r r1 r2
            · rw [List.nodup_iff_pairwise_ne, List.pairwise_map]
              exact hFs.imp (fun {r1 r2} hab => fun (e : r1.1 = r2.1) => vLt_irr r2.1 (by have hab' : vLt r1.1 r2.1 := hab; rw [e] at hab'; exact hab'))
          · rcases List.mem_cons.mp hw with q | q
            · exact .inr ⟨v0, List.mem_cons_self, q.symm⟩
            · obtain ⟨r, r1, r2⟩ := List.mem_map.mp q
              exact .inl ⟨r, r1, r2⟩
        · obtain ⟨G2, g1, g2, g3⟩ := k_76 (f := f) (m := m) (rk := 0) (p := l0) hF1 hl0 (by omega) (s84 h.1.1) hnv (by omega) vec_len (fun c hc => hK.2 c (by rw [vec_len]; exact hc))
          have st : c179_29 f (fu + 1) 64 x (i : Int) (S, G, m) = _ := st_179i (r29 := c179_29 f fu) (lo := l0) h.1.1 h.1.2.1 hp1 (by omega) e1 hF.1 w1 (by omega) hF1.2.2.2.1.2.1 (by omega) (by rw [z1, xwr_g _ (by omega) (by omega)]; omega) g1 ei
          have f2 : ∀ a j, ¬ (x ≤ a ∧ a ≤ x + 2) → G2 a j = G1 a j := fun a j y => g2 a j (by omega) (by omega) (by omega)
          have hp2 : cPs G2 := wx (fun a j y1 y2 y3 => g2 a j (by omega) y2 y3)
          obtain ⟨s1, s2⟩ := ins_s (rk := 0) hFs hFl w2 z2
          have h2 : cWE S G2 u K Ls pl fa fn np nv a br qn xp cp R lo hi := h1.out (fun p hp b y1 y2 j => f2 b j (by have := hxp p hp; omega)) hp2 (fun a j y1 y2 => f2 a j (by omega)) (fun j => f2 _ _ (by omega)) (fun a j y => f2 a j (by omega))
          obtain ⟨G3, i1, i2, i3⟩ := ih k' (i + 1) fu G2 _ h2 (e5.ge (fun a j y1 y2 => f2 a j (by omega))) (by omega) (by omega) (by omega) g3 s1 (fun r hr => by
            rcases (s2 r).mp hr with q | q
            · exact hF0 r q
            · rw [q])
          have mem : ∀ w, (∃ r ∈ F.take l0 ++ (vec nv v0, (0 : Int)) :: F.drop l0, r.1 = w) ↔ (∃ r ∈ F, r.1 = w) ∨ w = vec nv v0 := fun w => by
            constructor
            · rintro ⟨r, r1, r2⟩
              rcases (s2 r).mp r1 with q | q
              · exact .inl ⟨r, q, r2⟩
              · rw [q] at r2; exact .inr r2.symm
            · rintro (⟨r, r1, r2⟩ | q)
              · exact ⟨r, (s2 r).mpr (.inl r1), r2⟩
              · exact ⟨_, (s2 _).mpr (.inr rfl), q.symm⟩
          refine ⟨G3, fun a j y1 y2 => by rw [i1 a j y1 y2, f2 a j y2, e2 a j (by omega) (by omega) (by omega)], i2, ?_⟩
          rcases i3 with ⟨F', j1, j2, j3, j4, j5⟩ | ⟨j1, W, j2, j3, j4⟩
          · refine .inl ⟨F', st.trans j1, j2, j3, j4, fun w => (j5 w).trans ?_⟩
            rw [mem]
            constructor
            · rintro ((q | q) | ⟨v, v1, v2⟩)
              · exact .inl q
              · exact .inr ⟨v0, List.mem_cons_self, q.symm⟩
              · exact .inr ⟨v, List.mem_cons_of_mem _ v1, v2⟩
            · rintro (q | ⟨v, v1, v2⟩)
              · exact .inl (.inl q)
              · rcases List.mem_cons.mp v1 with e | e
                · subst e; exact .inl (.inr v2.symm)
                · exact .inr ⟨v, e, v2⟩
          · refine .inr ⟨st.trans j1, W, j2, j3, fun w hw => ?_⟩
            rcases j4 w hw with q | ⟨v, v1, v2⟩
            · rcases (mem w).mp q with q | q
              · exact .inl q
              · exact .inr ⟨v0, List.mem_cons_self, q.symm⟩
            · exact .inr ⟨v, List.mem_cons_of_mem _ v1, v2⟩
end
