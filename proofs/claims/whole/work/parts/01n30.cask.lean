section
/-! THE CLASS: ask() -/
/-- values of the first nv VARIABLES -/
def vec (nv : Nat) (v : Nat → Int) : List Int := (List.range nv).map v
theorem vec_len {nv : Nat} {v : Nat → Int} : (vec nv v).length = nv := by unfold vec; rw [List.length_map, List.length_range]
theorem vec_get {nv k : Nat} {v : Nat → Int} (h : k < nv) : (vec nv v).getD k 0 = v k := by
  unfold vec
  rw [List.getD_eq_getElem?_getD, List.getElem?_map, List.getElem?_range h]
  rfl
theorem vec_ext {nv : Nat} {v w : Nat → Int} (h : ∀ k, k < nv → v k = w k) : vec nv v = vec nv w := by
  unfold vec
  exact List.map_congr_left (fun k hk => h k (List.mem_range.mp hk))
theorem vec_vF {nv : Nat} {v : Nat → Int} {k : Nat} (h : k < nv) : vF (vec nv v) k = v k := vec_get h
section
variable {f x y nv i lo : Nat} {S : Nat → Nat × Nat × Nat} {G G1 G2 : xG_} {m : Nat × Nat} {r29 : Nat → Nat → Int → xT_ → Option (Int × xT_)} {v n : Int}
theorem st_179z (hs : cSs S) (hp : cPs G) (hi : i < 10000000) (e : c132 f 83 (S, G, m) = some (0, (S, G1, m))) : c179_29b r29 f 64 x (i : Int) (S, G, m) = c179_101 f 64 x (S, G1, m) := by
  unfold c179_29b
  simp (disch := omega) only [cq_gi, cq_gr, cq_a, cq_s, cq_p, cq_pr, cq_is, cq_ar, cq_ab, cq_ln, xq_nz, Option.bind_some, xup2_n, xup2_s, Int.toNat_natCast, Int.reduceToNat, if_pos, if_neg, true_and, and_true, and_self, eq_self, if_true, reduceIte, not_true_eq_false, not_false_eq_true, or_true, true_or, s64 hs, s83 hs, p64_2 hp, e]
theorem st_179f (hs : cSs S) (hp : cPs G) (hp1 : cPs G1) (hi : i < 10000000) (e : c132 f 83 (S, G, m) = some (1, (S, G1, m))) (xs : S x = (1, 5, 4)) (e2 : c74 f x 84 (S, G1, m) = some (v, (S, G1, m))) (hv : 0 ≤ v) (ei : xwr ((i : Int) + 1) = ((i + 1 : Nat) : Int)) : c179_29b r29 f 64 x (i : Int) (S, G, m) = r29 64 x ((i + 1 : Nat) : Int) (S, G1, m) := by
  unfold c179_29b c179_95
  simp (disch := omega) only [cq_gi, cq_gr, cq_a, cq_s, cq_p, cq_pr, cq_is, cq_ar, cq_ab, cq_ln, xq_nz, Option.bind_some, xup2_n, xup2_s, Int.toNat_natCast, Int.reduceToNat, if_pos, if_neg, true_and, and_true, and_self, eq_self, if_true, reduceIte, not_true_eq_false, not_false_eq_true, or_true, true_or, s64 hs, s83 hs, p64_2 hp, p64_2 hp1, p83_0 hp1, e, xs, e2, hv, ei, Int.reduceEq]
theorem st_179t (hs : cSs S) (hp : cPs G) (hp1 : cPs G1) (hi : i < 10000000) (e : c132 f 83 (S, G, m) = some (1, (S, G1, m))) (xs : S x = (1, 5, 4)) (e2 : c74 f x 84 (S, G1, m) = some (v, (S, G1, m))) (hv : ¬ 0 ≤ v) (h1 : G1 x 1 = 500) : c179_29b r29 f 64 x (i : Int) (S, G, m) = some (-6000, (S, G1, m)) := by
  unfold c179_29b
  simp (disch := omega) only [cq_gi, cq_gr, cq_a, cq_s, cq_p, cq_pr, cq_is, cq_ar, cq_ab, cq_ln, xq_nz, Option.bind_some, xup2_n, xup2_s, Int.toNat_natCast, Int.reduceToNat, if_pos, if_neg, true_and, and_true, and_self, eq_self, if_true, reduceIte, not_true_eq_false, not_false_eq_true, or_true, true_or, s64 hs, s83 hs, p64_2 hp, p64_2 hp1, p83_0 hp1, e, xs, e2, hv, h1, Int.reduceEq]
theorem st_179i (hs : cSs S) (hp : cPs G) (hp1 : cPs G1) (hi : i < 10000000) (e : c132 f 83 (S, G, m) = some (1, (S, G1, m))) (xs : S x = (1, 5, 4)) (e2 : c74 f x 84 (S, G1, m) = some (v, (S, G1, m))) (hv : ¬ 0 ≤ v) (h1 : G1 x 1 = n) (hn : n ≠ 500) (ev : xwr (-1 - v) = (lo : Int)) (e3 : c76 f x (lo : Int) 84 0 (S, G1, m) = some (S, G2, m)) (ei : xwr ((i : Int) + 1) = ((i + 1 : Nat) : Int)) : c179_29b r29 f 64 x (i : Int) (S, G, m) = r29 64 x ((i + 1 : Nat) : Int) (S, G2, m) := by
  unfold c179_29b c179_95
  simp (disch := omega) only [cq_gi, cq_gr, cq_a, cq_s, cq_p, cq_pr, cq_is, cq_ar, cq_ab, cq_ln, xq_nz, Option.bind_some, xup2_n, xup2_s, Int.toNat_natCast, Int.reduceToNat, if_pos, if_neg, true_and, and_true, and_self, eq_self, if_true, reduceIte, not_true_eq_false, not_false_eq_true, or_true, true_or, s64 hs, s83 hs, p64_2 hp, p64_2 hp1, p83_0 hp1, e, xs, e2, hv, h1, hn, ev, e3, ei, Int.reduceEq]
theorem st_179e (hs : cSs S) (xs : S x = (1, 5, 4)) (hx : 64 < x) (h1 : G x 1 = (i : Int)) (h10 : G 64 10 = (y : Int)) : c179_101 f 64 x (S, G, m) = some ((i : Int), (S, if i = 0 then G else xup2 (xup2 G 64 11 (y : Int)) 64 10 (x : Int), m)) := by
  by_cases c : i = 0
  · rw [if_pos c]
    rw [c] at h1 ⊢
    unfold c179_101 c179_121
    simp (disch := omega) only [cq_gi, cq_gr, cq_a, cq_s, cq_p, cq_pr, cq_is, cq_ar, cq_ab, cq_ln, xq_nz, Option.bind_some, xup2_n, xup2_s, Int.toNat_natCast, Int.reduceToNat, if_pos, if_neg, true_and, and_true, and_self, eq_self, if_true, reduceIte, not_true_eq_false, not_false_eq_true, or_true, true_or, xs, h1]
  · rw [if_neg c]
    unfold c179_101 c179_121
    simp (disch := omega) only [cq_gi, cq_gr, cq_a, cq_s, cq_p, cq_pr, cq_is, cq_ar, cq_ab, cq_ln, xq_nz, Option.bind_some, xup2_n, xup2_s, Int.toNat_natCast, Int.reduceToNat, if_pos, if_neg, true_and, and_true, and_self, eq_self, if_true, reduceIte, not_true_eq_false, not_false_eq_true, or_true, true_or, s64 hs, xs, h1, h10]
end
end
section
/-! THE CLASS: ask(), its loop -/
/-- a row that is put where it belongs -/
theorem ins_s {R : List pRw} {kl : List Int} {rk : Int} {lo : Nat} (hs : R.Pairwise rwLt) (hl : ∀ r ∈ R, r.1.length = kl.length) (hsr : isSr R kl 0 lo) (hn : ∀ r ∈ R, r.1 ≠ kl) : (R.take lo ++ (kl, rk) :: R.drop lo).Pairwise rwLt ∧ ∀ z, z ∈ R.take lo ++ (kl, rk) :: R.drop lo ↔ z ∈ R ∨ z = (kl, rk) := by
  have tk : ∀ i, i < R.length → (R.getD i dRw).1.take kl.length = (R.getD i dRw).1 := fun i hi => by
    have := hl _ (show R.getD i dRw ∈ R by rw [getD_e hi]; exact List.getElem_mem hi)
    rw [← this, List.take_length]
  have below : ∀ z ∈ R.take lo, rwLt z (kl, rk) := fun z hz => by
    obtain ⟨i, hi, ei⟩ := List.getElem_of_mem hz
    rw [List.length_take] at hi
    rw [List.getElem_take] at ei
    have hiR : i < R.length := by omega
    have := hsr.2.1 i (by omega)
    rw [tk i hiR, getD_e hiR, ei] at this
    have hzl := hl z (List.mem_of_mem_take hz)
    exact (vLt_iff (by show z.1.length = kl.length; exact hzl)).mpr this
  have above : ∀ z ∈ R.drop lo, rwLt (kl, rk) z := fun z hz => by
    obtain ⟨i, hi, ei⟩ := List.getElem_of_mem hz
    rw [List.length_drop] at hi
    rw [List.getElem_drop] at ei
    have hiR : lo + i < R.length := by omega
    have := hsr.2.2 (lo + i) (by omega) hiR
    rw [tk _ hiR, getD_e hiR, ei] at this
    have hzR : z ∈ R := List.mem_of_mem_drop hz
    have hzl := hl z hzR
    refine (vLt_iff (by show kl.length = z.1.length; exact hzl.symm)).mpr ?_
    show vCmp kl z.1 < 0
    rw [vCmp_anti]
    have hne : vCmp z.1 kl ≠ 0 := fun q => hn z hzR (vCmp_eq hzl q)
    omega
  refine ⟨List.pairwise_append.mpr ⟨hs.sublist (List.take_sublist _ _), List.pairwise_cons.mpr ⟨above, hs.sublist (List.drop_sublist _ _)⟩, fun z hz w hw => ?_⟩, fun z => ?_⟩
  · rcases List.mem_cons.mp hw with q | q
    · rw [q]; exact below z hz
    · exact rwLt_tr (below z hz) (above w q)
  · rw [List.mem_append, List.mem_cons]
    constructor
    · rintro (q | q | q)
      · exact .inl (List.mem_of_mem_take q)
      · exact .inr q
      · exact .inl (List.mem_of_mem_drop q)
    · rintro (q | q)
      · have := q
        rw [← List.take_append_drop lo R, List.mem_append] at this
        exact this.imp id .inr
      · exact .inr (.inl q)
section
variable {f u fa fn np nv a x y : Nat} {S : Nat → Nat × Nat × Nat} {G G' : xG_} {m : Nat × Nat} {K : pCd} {Ls : List pLt} {pl : List Nat} {br : Int} {qn xp cp : Nat → Nat} {R : Nat → List pRw} {lo hi : Nat → Int} {Bf : Nat}
/-- rows apart from those that are made -/
theorem cWE.out (h : cWE S G u K Ls pl fa fn np nv a br qn xp cp R lo hi) (hx : ∀ p, p < np → ∀ b, xp p ≤ b → b ≤ xp p + 2 → ∀ j, G' b j = G b j) (hp : cPs G') (hw : ∀ a j, 83 ≤ a → a ≤ 92 → G' a j = G a j) (hfa : ∀ j, G' fa j = G fa j) (hu : ∀ a j, 278 < a → G' a j = G a j) : cWE S G' u K Ls pl fa fn np nv a br qn xp cp R lo hi := by
  obtain ⟨⟨a1, a2, a3, a4, a5, a6, a7, a8⟩, b1, c1, ⟨d1, d2⟩, e1, f1⟩ := h
  have hu0 := b1.2.2.2.2.1
  refine ⟨⟨a1, hp, by rw [hw _ _ (by omega) (by omega)]; exact a3, by rw [hw _ _ (by omega) (by omega)]; exact a4, by rw [hw _ _ (by omega) (by omega)]; exact a5, a6, a7, a8⟩, b1.fx hu, c1, ⟨d1, fun k hk => ?_⟩, fun p hp => ?_, fun l hl => ?_⟩
  · rw [hu _ _ (by omega), hu _ _ (by omega)]; exact d2 k hk
  · obtain ⟨q1, q2, q3, q4⟩ := e1 p hp
    exact ⟨by rw [hfa]; exact q1, q2, q3.ge (fun _ _ _ => rfl) (fun j => hx p hp _ (by omega) (by omega) j) (fun j => hx p hp _ (by omega) (by omega) j) (fun j => hx p hp _ (by omega) (by omega) j), q4⟩
  · rw [hw _ _ (by omega) (by omega), hw _ _ (by omega) (by omega)]; exact f1 l hl
theorem k_179l (hf : 100003010 < f) (hx : x = 221 ∨ x = 224) (hxp : ∀ p, p < np → xp p + 2 < 221 ∨ 226 < xp p) (hfa : fa < 221 ∨ 226 < fa) (hnv : nv ≤ 8) (hBf : ∀ j, j < nv → Bf.testBit j = true) : ∀ (V : List (Nat → Int)) (k i fu : Nat) (G : xG_) (F : List pRw), cWE S G u K Ls pl fa fn np nv a br qn xp cp R lo hi → wSt8 Ls pl a br R lo hi G Bf V k → k ≤ 100000000 → V.length < fu → i + V.length < 10000000 → cRw S G x nv 500 F → F.Pairwise rwLt → (∀ r ∈ F, r.2 = 0) → ∃ G', (∀ a j, ¬ (83 ≤ a ∧ a ≤ 92) → ¬ (x ≤ a ∧ a ≤ x + 2) → G' a j = G a j) ∧ cPs G' ∧
    ((∃ F', c179_29 f fu 64 x (i : Int) (S, G, m) = c179_101 f 64 x (S, G', m) ∧ cRw S G' x nv 500 F' ∧ F'.Pairwise rwLt ∧ (∀ r ∈ F', r.2 = 0) ∧ ∀ w, (∃ r ∈ F', r.1 = w) ↔ (∃ r ∈ F, r.1 = w) ∨ ∃ v ∈ V, vec nv v = w) ∨
     (c179_29 f fu 64 x (i : Int) (S, G, m) = some (-6000, (S, G', m)) ∧ ∃ W : List (List Int), W.Nodup ∧ 500 < W.length ∧ ∀ w ∈ W, (∃ r ∈ F, r.1 = w) ∨ ∃ v ∈ V, vec nv v = w)) := by
  intro V
  induction V with
  | nil =>
    intro k i fu G F h hs hk hfu hii hF hFs hF0
    obtain ⟨fu, rfl⟩ : ∃ t, fu = t + 1 := ⟨fu - 1, by omega⟩
    rcases k_next (m := m) hf h hs hk with ⟨G1, e1, e2, e3⟩ | ⟨G1, v, V', k', e1, e2, e3, _⟩
    · have hp1 : cPs G1 := (h.ge e2).1.2.1
      have st : c179_29 f (fu + 1) 64 x (i : Int) (S, G, m) = _ := st_179z (r29 := c179_29 f fu) h.1.1 h.1.2.1 (by simp at hii; omega) e1
      refine ⟨G1, fun a j y1 y2 => e2 a j (by omega) (by omega) (by omega), hp1, .inl ⟨F, st, hF.ge (fun _ _ _ => rfl) (fun j => e2 _ _ (by omega) (by omega) (by omega)) (fun j => e2 _ _ (by omega) (by omega) (by omega)) (fun j => e2 _ _ (by omega) (by omega) (by omega)), hFs, hF0, fun w => ⟨.inl, fun q => q.elim id (fun ⟨v, v1, _⟩ => nomatch v1)⟩⟩⟩
    · cases e3
  | cons v0 V ih =>
    intro k i fu G F h hs hk hfu hii hF hFs hF0
    rw [List.length_cons] at hfu hii
    obtain ⟨fu, rfl⟩ : ∃ t, fu = t + 1 := ⟨fu - 1, by omega⟩
    rcases k_next (m := m) hf h hs hk with ⟨G1, e1, e2, e3⟩ | ⟨G1, v, V', k', e1, e2, e3, e4, e5, e6⟩
    · cases e3
    · injection e3 with q1 q2
      subst q1 q2
      have h1 := h.ge e2
      have hp1 : cPs G1 := h1.1.2.1
      have hF1 : cRw S G1 x nv 500 F := hF.ge (fun _ _ _ => rfl) (fun j => e2 _ _ (by omega) (by omega) (by omega)) (fun j => e2 _ _ (by omega) (by omega) (by omega)) (fun j => e2 _ _ (by omega) (by omega) (by omega))
      have ei : xwr ((i : Int) + 1) = ((i + 1 : Nat) : Int) := by rw [xwr_g _ (by omega) (by omega)]; omega
      have hK : cKl S G1 84 (vec nv v0) := ⟨⟨8, s84 h.1.1, by rw [vec_len]; exact hnv⟩, fun c hc => by
        rw [vec_len] at hc
        rw [vec_get hc]
        exact (e6 c (hBf c hc)).2.1⟩
      have hFl : ∀ r ∈ F, r.1.length = (vec nv v0).length := fun r hr => by
        obtain ⟨j, hj, ej⟩ := List.getElem_of_mem hr
        have := (hF.2.2.2.2.2.2.2 j hj).1
        rw [getD_e hj, ej] at this
        rw [vec_len]; exact this
      obtain ⟨w, w1, l0, w2, w3⟩ := k_74 (f := f) (m := m) (by omega) hF1 hFs vec_len hK
      have h500 := hF.2.2.2.2.1
      have hl0 := w2.1
      have wx : ∀ {G2 : xG_}, (∀ a j, ¬ (a = x ∧ j ≤ 1) → a ≠ x + 1 → a ≠ x + 2 → G2 a j = G1 a j) → cPs G2 := fun {G2} hz => hp1.ge (fun a j hy => by
        have : ¬ (a = x ∧ j ≤ 1) ∧ a ≠ x + 1 ∧ a ≠ x + 2 := by
          rcases hx with rfl | rfl <;> (rcases hy with z | z | z | z | z | z | z | ⟨z, z1, z2, k, z3⟩ | z | z | z | ⟨k, z1, z2, z3⟩ <;> omega)
        exact hz a j this.1 this.2.1 this.2.2)
      rcases w3 with ⟨z1, z2, z3⟩ | ⟨z1, z2⟩
      · have st : c179_29 f (fu + 1) 64 x (i : Int) (S, G, m) = _ := st_179f (r29 := c179_29 f fu) h.1.1 h.1.2.1 hp1 (by omega) e1 hF.1 w1 (by omega) ei
        obtain ⟨G2, i1, i2, i3⟩ := ih k' (i + 1) fu G1 F h1 e5 (by omega) (by omega) (by omega) hF1 hFs hF0
        have hin : ∃ r ∈ F, r.1 = vec nv v0 := ⟨F.getD l0 dRw, by rw [getD_e z2]; exact List.getElem_mem z2, z3⟩
        refine ⟨G2, fun a j y1 y2 => by rw [i1 a j y1 y2, e2 a j (by omega) (by omega) (by omega)], i2, ?_⟩
        rcases i3 with ⟨F', j1, j2, j3, j4, j5⟩ | ⟨j1, W, j2, j3, j4⟩
        · refine .inl ⟨F', st.trans j1, j2, j3, j4, fun w => (j5 w).trans ⟨fun q => q.imp id (fun ⟨v, v1, v2⟩ => ⟨v, List.mem_cons_of_mem _ v1, v2⟩), fun q => ?_⟩⟩
          rcases q with q | ⟨v, v1, v2⟩
          · exact .inl q
          · rcases List.mem_cons.mp v1 with e | e
            · subst e; rw [← v2]; exact .inl hin
            · exact .inr ⟨v, e, v2⟩
        · exact .inr ⟨st.trans j1, W, j2, j3, fun w hw => (j4 w hw).imp id (fun ⟨v, v1, v2⟩ => ⟨v, List.mem_cons_of_mem _ v1, v2⟩)⟩
      · by_cases c500 : F.length = 500
        · have st : c179_29 f (fu + 1) 64 x (i : Int) (S, G, m) = _ := st_179t (r29 := c179_29 f fu) h.1.1 h.1.2.1 hp1 (by omega) e1 hF.1 w1 (by omega) (by rw [hF1.2.2.2.1.2.1, c500]; rfl)
          refine ⟨G1, fun a j y1 y2 => e2 a j (by omega) (by omega) (by omega), hp1, .inr ⟨st, vec nv v0 :: F.map (·.1), ?_, by rw [List.length_cons, List.length_map]; omega, fun w hw => ?_⟩⟩
          · refine List.nodup_cons.mpr ⟨fun q => ?_, ?_⟩
            · obtain ⟨r, r1, r2⟩ := List.mem_map.mp q
              exact z2 r r1 r2
            · rw [List.nodup_iff_pairwise_ne, List.pairwise_map]
              exact hFs.imp (fun {r1 r2} hab => fun (e : r1.1 = r2.1) => vLt_irr r2.1 (by have hab' : vLt r1.1 r2.1 := hab; rw [e] at hab'; exact hab'))
          · rcases List.mem_cons.mp hw with q | q
            · exact .inr ⟨v0, List.mem_cons_self, q.symm⟩
            · obtain ⟨r, r1, r2⟩ := List.mem_map.mp q
              exact .inl ⟨r, r1, r2⟩
        · obtain ⟨G2, g1, g2, g3⟩ := k_76 (f := f) (m := m) (rk := 0) (p := l0) hF1 hl0 (by omega) (s84 h.1.1) hnv (by omega) vec_len (fun c hc => hK.2 c (by rw [vec_len]; exact hc))
          have st : c179_29 f (fu + 1) 64 x (i : Int) (S, G, m) = _ := st_179i (r29 := c179_29 f fu) (lo := l0) h.1.1 h.1.2.1 hp1 (by omega) e1 hF.1 w1 (by omega) hF1.2.2.2.1.2.1 (by omega) (by rw [z1, xwr_g _ (by omega) (by omega)]; omega) g1 ei
          have f2 : ∀ a j, ¬ (x ≤ a ∧ a ≤ x + 2) → G2 a j = G1 a j := fun a j y => g2 a j (by omega) (by omega) (by omega)
          have hp2 : cPs G2 := wx (fun a j y1 y2 y3 => g2 a j (by omega) y2 y3)
          obtain ⟨s1, s2⟩ := ins_s (rk := 0) hFs hFl w2 z2
          have h2 : cWE S G2 u K Ls pl fa fn np nv a br qn xp cp R lo hi := h1.out (fun p hp b y1 y2 j => f2 b j (by have := hxp p hp; omega)) hp2 (fun a j y1 y2 => f2 a j (by omega)) (fun j => f2 _ _ (by omega)) (fun a j y => f2 a j (by omega))
          obtain ⟨G3, i1, i2, i3⟩ := ih k' (i + 1) fu G2 _ h2 (e5.ge (fun a j y1 y2 => f2 a j (by omega))) (by omega) (by omega) (by omega) g3 s1 (fun r hr => by
            rcases (s2 r).mp hr with q | q
            · exact hF0 r q
            · rw [q])
          have mem : ∀ w, (∃ r ∈ F.take l0 ++ (vec nv v0, (0 : Int)) :: F.drop l0, r.1 = w) ↔ (∃ r ∈ F, r.1 = w) ∨ w = vec nv v0 := fun w => by
            constructor
            · rintro ⟨r, r1, r2⟩
              rcases (s2 r).mp r1 with q | q
              · exact .inl ⟨r, q, r2⟩
              · rw [q] at r2; exact .inr r2.symm
            · rintro (⟨r, r1, r2⟩ | q)
              · exact ⟨r, (s2 r).mpr (.inl r1), r2⟩
              · exact ⟨_, (s2 _).mpr (.inr rfl), q.symm⟩
          refine ⟨G3, fun a j y1 y2 => by rw [i1 a j y1 y2, f2 a j y2, e2 a j (by omega) (by omega) (by omega)], i2, ?_⟩
          rcases i3 with ⟨F', j1, j2, j3, j4, j5⟩ | ⟨j1, W, j2, j3, j4⟩
          · refine .inl ⟨F', st.trans j1, j2, j3, j4, fun w => (j5 w).trans ?_⟩
            rw [mem]
            constructor
            · rintro ((q | q) | ⟨v, v1, v2⟩)
              · exact .inl q
              · exact .inr ⟨v0, List.mem_cons_self, q.symm⟩
              · exact .inr ⟨v, List.mem_cons_of_mem _ v1, v2⟩
            · rintro (q | ⟨v, v1, v2⟩)
              · exact .inl (.inl q)
              · rcases List.mem_cons.mp v1 with e | e
                · subst e; exact .inl (.inr v2.symm)
                · exact .inr ⟨v, e, v2⟩
          · refine .inr ⟨st.trans j1, W, j2, j3, fun w hw => ?_⟩
            rcases j4 w hw with q | ⟨v, v1, v2⟩
            · rcases (mem w).mp q with q | q
              · exact .inl q
              · exact .inr ⟨v0, List.mem_cons_self, q.symm⟩
            · exact .inr ⟨v, List.mem_cons_of_mem _ v1, v2⟩
end
end
section
/-! THE CLASS: give() -/
def c156a (f : Nat) (a0 : Nat) (a1 : Int) (a2 : Nat) (R105 : (Int × xT_)) : Option (Int × xT_) := (if 0 ≤ (R105.1) then c156_28  f  R105.2 else ((cq_gr 10 4 18 (a0) R105.2).bind fun v112 => ((cq_ar (v112) (a1) R105.2).bind fun v114 => ((cq_is 5 4 (v114) R105.2).bind fun _ => ((c74 f (v114) (a2) R105.2).bind fun R116 => (if (R116.1) < 0 then ((cq_gr 10 4 18 (a0) R116.2).bind fun v123 => ((cq_ar (v123) (a1) R116.2).bind fun v125 => ((cq_gi 5 1 4 (v125) R116.2).bind fun v127 => ((cq_gr 10 5 18 (a0) R116.2).bind fun v129 => ((cq_ar (v129) (a1) R116.2).bind fun v131 => ((cq_gi 5 1 4 (v131) R116.2).bind fun v133 => (if (xwr ((v127) + (v133))) < (100) then ((cq_gr 10 5 18 (a0) R116.2).bind fun v136 => ((cq_ar (v136) (a1) R116.2).bind fun v138 => ((cq_is 5 4 (v138) R116.2).bind fun _ => ((c76 f (v138) (xwr ((-1) - (R105.1))) (a2) (0) R116.2).bind fun R140 => ((cq_gi 10 15 18 (a0) R140).bind fun v146 => ((cq_p 10 15 18 (a0) (xwr ((v146) + (1))) R140).bind fun T149 => (some (1, T149)))))))) else (some (0, R116.2))))))))) else c156_28  f  R116.2))))))
theorem c156a_e (f : Nat) (a0 : Nat) (a1 : Int) (a2 : Nat) (T : xT_) : c156 f a0 a1 a2 T = ((cq_gr 10 5 18 (a0) T).bind fun v101 => ((cq_ar (v101) (a1) T).bind fun v103 => ((cq_is 5 4 (v103) T).bind fun _ => ((c74 f (v103) (a2) T).bind fun R105 => c156a f a0 a1 a2 R105)))) := rfl
def c156b (f : Nat) (a0 : Nat) (a1 : Int) (a2 : Nat) (R105 : (Int × xT_)) (R116 : (Int × xT_)) : Option (Int × xT_) := (if (R116.1) < 0 then ((cq_gr 10 4 18 (a0) R116.2).bind fun v123 => ((cq_ar (v123) (a1) R116.2).bind fun v125 => ((cq_gi 5 1 4 (v125) R116.2).bind fun v127 => ((cq_gr 10 5 18 (a0) R116.2).bind fun v129 => ((cq_ar (v129) (a1) R116.2).bind fun v131 => ((cq_gi 5 1 4 (v131) R116.2).bind fun v133 => (if (xwr ((v127) + (v133))) < (100) then ((cq_gr 10 5 18 (a0) R116.2).bind fun v136 => ((cq_ar (v136) (a1) R116.2).bind fun v138 => ((cq_is 5 4 (v138) R116.2).bind fun _ => ((c76 f (v138) (xwr ((-1) - (R105.1))) (a2) (0) R116.2).bind fun R140 => ((cq_gi 10 15 18 (a0) R140).bind fun v146 => ((cq_p 10 15 18 (a0) (xwr ((v146) + (1))) R140).bind fun T149 => (some (1, T149)))))))) else (some (0, R116.2))))))))) else c156_28  f  R116.2)
theorem c156b_e (f : Nat) (a0 : Nat) (a1 : Int) (a2 : Nat) (R105 : (Int × xT_)) : c156a f a0 a1 a2 R105 = (if 0 ≤ (R105.1) then c156_28  f  R105.2 else ((cq_gr 10 4 18 (a0) R105.2).bind fun v112 => ((cq_ar (v112) (a1) R105.2).bind fun v114 => ((cq_is 5 4 (v114) R105.2).bind fun _ => ((c74 f (v114) (a2) R105.2).bind fun R116 => c156b f a0 a1 a2 R105 R116))))) := rfl
def c156c (f : Nat) (a0 : Nat) (R140 : (xT_)) : Option (Int × xT_) := ((cq_gi 10 15 18 (a0) R140).bind fun v146 => ((cq_p 10 15 18 (a0) (xwr ((v146) + (1))) R140).bind fun T149 => (some (1, T149))))
theorem c156c_e (f : Nat) (a0 : Nat) (a1 : Int) (a2 : Nat) (R105 : (Int × xT_)) (R116 : (Int × xT_)) : c156b f a0 a1 a2 R105 R116 = (if (R116.1) < 0 then ((cq_gr 10 4 18 (a0) R116.2).bind fun v123 => ((cq_ar (v123) (a1) R116.2).bind fun v125 => ((cq_gi 5 1 4 (v125) R116.2).bind fun v127 => ((cq_gr 10 5 18 (a0) R116.2).bind fun v129 => ((cq_ar (v129) (a1) R116.2).bind fun v131 => ((cq_gi 5 1 4 (v131) R116.2).bind fun v133 => (if (xwr ((v127) + (v133))) < (100) then ((cq_gr 10 5 18 (a0) R116.2).bind fun v136 => ((cq_ar (v136) (a1) R116.2).bind fun v138 => ((cq_is 5 4 (v138) R116.2).bind fun _ => ((c76 f (v138) (xwr ((-1) - (R105.1))) (a2) (0) R116.2).bind fun R140 => c156c f a0 R140)))) else (some (0, R116.2))))))))) else c156_28  f  R116.2) := rfl
theorem mk_in : ∀ p : Fin 16, (96, p.val, 108 + 6 * p.val) ∈ cl_P ∧ (97, p.val, 111 + 6 * p.val) ∈ cl_P := by decide +kernel
theorem mk_sh : ∀ p : Fin 16, cl_S.getD (44 + 6 * p.val) (0, 0, 0) = (1, 5, 4) ∧ cl_S.getD (45 + 6 * p.val) (0, 0, 0) = (2, 4, 400) ∧ cl_S.getD (46 + 6 * p.val) (0, 0, 0) = (2, 3, 100) ∧ cl_S.getD (47 + 6 * p.val) (0, 0, 0) = (1, 5, 4) ∧ cl_S.getD (48 + 6 * p.val) (0, 0, 0) = (2, 4, 400) ∧ cl_S.getD (49 + 6 * p.val) (0, 0, 0) = (2, 3, 100) := by decide +kernel
section
variable {f p a kz W lo mn fn : Nat} {S : Nat → Nat × Nat × Nat} {G G1 : xG_} {m : Nat × Nat} {M F : List pRw} {kl : List Int} {v w cm : Int}
theorem p_mk (h : cPs G) (hp : p < 16) : G 96 p = ((108 + 6 * p : Nat) : Int) ∧ G 97 p = ((111 + 6 * p : Nat) : Int) := ⟨h _ (mk_in ⟨p, hp⟩).1, h _ (mk_in ⟨p, hp⟩).2⟩
theorem s_mk (h : cSs S) (hp : p < 16) : S (108 + 6 * p) = (1, 5, 4) ∧ S (109 + 6 * p) = (2, 4, 400) ∧ S (110 + 6 * p) = (2, 3, 100) ∧ S (111 + 6 * p) = (1, 5, 4) ∧ S (112 + 6 * p) = (2, 4, 400) ∧ S (113 + 6 * p) = (2, 3, 100) := by
  obtain ⟨q1, q2, q3, q4, q5, q6⟩ := mk_sh ⟨p, hp⟩
  refine ⟨?_, ?_, ?_, ?_, ?_, ?_⟩
  · have := h (44 + 6 * p) (by omega); rw [show 64 + (44 + 6 * p) = 108 + 6 * p by omega] at this; rw [this]; exact q1
  · have := h (45 + 6 * p) (by omega); rw [show 64 + (45 + 6 * p) = 109 + 6 * p by omega] at this; rw [this]; exact q2
  · have := h (46 + 6 * p) (by omega); rw [show 64 + (46 + 6 * p) = 110 + 6 * p by omega] at this; rw [this]; exact q3
  · have := h (47 + 6 * p) (by omega); rw [show 64 + (47 + 6 * p) = 111 + 6 * p by omega] at this; rw [this]; exact q4
  · have := h (48 + 6 * p) (by omega); rw [show 64 + (48 + 6 * p) = 112 + 6 * p by omega] at this; rw [this]; exact q5
  · have := h (49 + 6 * p) (by omega); rw [show 64 + (49 + 6 * p) = 113 + 6 * p by omega] at this; rw [this]; exact q6
theorem st_156a {R : Int × xT_} (hs : cSs S) (hp : cPs G) (hp16 : p < 16) (e : c74 f (111 + 6 * p) a (S, G, m) = some R) : c156 f 93 (p : Int) a (S, G, m) = c156a f 93 (p : Int) a R := by
  rw [c156a_e]
  simp (disch := omega) only [cq_gi, cq_gr, cq_a, cq_s, cq_p, cq_pr, cq_is, cq_ar, cq_ab, cq_ln, xq_nz, Option.bind_some, xup2_n, xup2_s, Int.toNat_natCast, Int.reduceToNat, if_pos, if_neg, true_and, and_true, and_self, eq_self, if_true, reduceIte, not_true_eq_false, not_false_eq_true, or_true, true_or, s93 hs, s97 hs, p93_5 hp, (p_mk hp hp16).2, (s_mk hs hp16).2.2.2.1, e]
theorem st_156y (hv : 0 ≤ v) : c156a f 93 (p : Int) a (v, (S, G, m)) = some (1, (S, G, m)) := by
  rw [c156b_e]
  unfold c156_28
  simp (disch := omega) only [cq_gi, cq_gr, cq_a, cq_s, cq_p, cq_pr, cq_is, cq_ar, cq_ab, cq_ln, xq_nz, Option.bind_some, xup2_n, xup2_s, Int.toNat_natCast, Int.reduceToNat, if_pos, if_neg, true_and, and_true, and_self, eq_self, if_true, reduceIte, not_true_eq_false, not_false_eq_true, or_true, true_or, hv]
theorem st_156b {R : Int × xT_} (hs : cSs S) (hp : cPs G) (hp16 : p < 16) (hv : ¬ 0 ≤ v) (e : c74 f (108 + 6 * p) a (S, G, m) = some R) : c156a f 93 (p : Int) a (v, (S, G, m)) = c156b f 93 (p : Int) a (v, (S, G, m)) R := by
  rw [c156b_e]
  simp (disch := omega) only [cq_gi, cq_gr, cq_a, cq_s, cq_p, cq_pr, cq_is, cq_ar, cq_ab, cq_ln, xq_nz, Option.bind_some, xup2_n, xup2_s, Int.toNat_natCast, Int.reduceToNat, if_pos, if_neg, true_and, and_true, and_self, eq_self, if_true, reduceIte, not_true_eq_false, not_false_eq_true, or_true, true_or, s93 hs, s96 hs, p93_4 hp, (p_mk hp hp16).1, (s_mk hs hp16).1, e, hv]
theorem st_156z (hw : ¬ w < 0) : c156b f 93 (p : Int) a (v, (S, G, m)) (w, (S, G, m)) = some (1, (S, G, m)) := by
  rw [c156c_e]
  unfold c156_28
  simp (disch := omega) only [cq_gi, cq_gr, cq_a, cq_s, cq_p, cq_pr, cq_is, cq_ar, cq_ab, cq_ln, xq_nz, Option.bind_some, xup2_n, xup2_s, Int.toNat_natCast, Int.reduceToNat, if_pos, if_neg, true_and, and_true, and_self, eq_self, if_true, reduceIte, not_true_eq_false, not_false_eq_true, or_true, true_or, hw]
theorem st_156n (hs : cSs S) (hp : cPs G) (hp16 : p < 16) (hw : w < 0) (h1 : G (108 + 6 * p) 1 = (mn : Int)) (h2 : G (111 + 6 * p) 1 = (fn : Int)) (es : xwr ((mn : Int) + (fn : Int)) = ((mn + fn : Nat) : Int)) (hn : 100 ≤ mn + fn) : c156b f 93 (p : Int) a (v, (S, G, m)) (w, (S, G, m)) = some (0, (S, G, m)) := by
  rw [c156c_e]
  simp (disch := omega) only [cq_gi, cq_gr, cq_a, cq_s, cq_p, cq_pr, cq_is, cq_ar, cq_ab, cq_ln, xq_nz, Option.bind_some, xup2_n, xup2_s, Int.toNat_natCast, Int.reduceToNat, if_pos, if_neg, true_and, and_true, and_self, eq_self, if_true, reduceIte, not_true_eq_false, not_false_eq_true, or_true, true_or, s93 hs, s96 hs, s97 hs, p93_4 hp, p93_5 hp, (p_mk hp hp16).1, (p_mk hp hp16).2, (s_mk hs hp16).1, (s_mk hs hp16).2.2.2.1, hw, h1, h2, es]
theorem st_156i {T : xT_} (hs : cSs S) (hp : cPs G) (hp16 : p < 16) (hw : w < 0) (h1 : G (108 + 6 * p) 1 = (mn : Int)) (h2 : G (111 + 6 * p) 1 = (fn : Int)) (es : xwr ((mn : Int) + (fn : Int)) = ((mn + fn : Nat) : Int)) (hn : mn + fn < 100) (ev : xwr (-1 - v) = (lo : Int)) (e : c76 f (111 + 6 * p) (lo : Int) a 0 (S, G, m) = some T) : c156b f 93 (p : Int) a (v, (S, G, m)) (w, (S, G, m)) = c156c f 93 T := by
  rw [c156c_e]
  simp (disch := omega) only [cq_gi, cq_gr, cq_a, cq_s, cq_p, cq_pr, cq_is, cq_ar, cq_ab, cq_ln, xq_nz, Option.bind_some, xup2_n, xup2_s, Int.toNat_natCast, Int.reduceToNat, if_pos, if_neg, true_and, and_true, and_self, eq_self, if_true, reduceIte, not_true_eq_false, not_false_eq_true, or_true, true_or, s93 hs, s96 hs, s97 hs, p93_4 hp, p93_5 hp, (p_mk hp hp16).1, (p_mk hp hp16).2, (s_mk hs hp16).1, (s_mk hs hp16).2.2.2.1, hw, h1, h2, es, ev, e]
theorem st_156c (hs : cSs S) (h : G 93 15 = cm) (ec : xwr (cm + 1) = cm + 1) : c156c f 93 (S, G, m) = some (1, (S, xup2 G 93 15 (cm + 1), m)) := by
  unfold c156c
  simp (disch := omega) only [cq_gi, cq_gr, cq_a, cq_s, cq_p, cq_pr, cq_is, cq_ar, cq_ab, cq_ln, xq_nz, Option.bind_some, xup2_n, xup2_s, Int.toNat_natCast, Int.reduceToNat, if_pos, if_neg, true_and, and_true, and_self, eq_self, if_true, reduceIte, not_true_eq_false, not_false_eq_true, or_true, true_or, s93 hs, h, ec]
/-- give(): a row comes to fresh, or is there, or there is no place -/
theorem k_156 (hf : 600 < f) (hs : cSs S) (hp : cPs G) (hp16 : p < 16) (hM : cRw S G (108 + 6 * p) W 100 M) (hF : cRw S G (111 + 6 * p) W 100 F) (hMs : M.Pairwise rwLt) (hFs : F.Pairwise rwLt) (hk : kl.length = W) (hK : cKl S G a kl) (has : S a = (2, 4, kz)) (hkz : W ≤ kz) (ha : a < 108) (hcm : G 93 15 = cm) (hcr : 0 ≤ cm ∧ cm ≤ 10000000) : ∃ v G', c156 f 93 (p : Int) a (S, G, m) = some (v, (S, G', m)) ∧ (∀ b j, ¬ (b = 93 ∧ j = 15) → ¬ (b = 111 + 6 * p ∧ j = 1) → b ≠ 112 + 6 * p → b ≠ 113 + 6 * p → G' b j = G b j) ∧ cPs G' ∧
    ((v = 1 ∧ G' = G ∧ ((∃ r ∈ F, r.1 = kl) ∨ ∃ r ∈ M, r.1 = kl)) ∨ (v = 0 ∧ G' = G ∧ 100 ≤ M.length + F.length ∧ (∀ r ∈ F, r.1 ≠ kl) ∧ ∀ r ∈ M, r.1 ≠ kl) ∨
     (v = 1 ∧ (∀ r ∈ F, r.1 ≠ kl) ∧ (∀ r ∈ M, r.1 ≠ kl) ∧ G' 93 15 = cm + 1 ∧ ∃ F', cRw S G' (111 + 6 * p) W 100 F' ∧ F'.Pairwise rwLt ∧ (F'.length = F.length + 1 ∧ M.length + F.length < 100) ∧ ∀ z, z ∈ F' ↔ z ∈ F ∨ z = (kl, 0))) := by
  have hFl : ∀ r ∈ F, r.1.length = kl.length := fun r hr => by
    obtain ⟨j, hj, ej⟩ := List.getElem_of_mem hr
    have := (hF.2.2.2.2.2.2.2 j hj).1
    rw [getD_e hj, ej] at this
    rw [hk]; exact this
  obtain ⟨v, v1, l0, v2, v3⟩ := k_74 (f := f) (m := m) hf hF hFs hk hK
  have e1 := st_156a hs hp hp16 v1
  rcases v3 with ⟨y1, y2, y3⟩ | ⟨y1, y2⟩
  · exact ⟨1, G, e1.trans (st_156y (by omega)), fun _ _ _ _ _ _ => rfl, hp, .inl ⟨rfl, rfl, .inl ⟨F.getD l0 dRw, by rw [getD_e y2]; exact List.getElem_mem y2, y3⟩⟩⟩
  · obtain ⟨w, w1, l1, w2, w3⟩ := k_74 (f := f) (m := m) hf hM hMs hk hK
    have e2 := e1.trans (st_156b hs hp hp16 (by omega) w1)
    rcases w3 with ⟨z1, z2, z3⟩ | ⟨z1, z2⟩
    · exact ⟨1, G, e2.trans (st_156z (by omega)), fun _ _ _ _ _ _ => rfl, hp, .inl ⟨rfl, rfl, .inr ⟨M.getD l1 dRw, by rw [getD_e z2]; exact List.getElem_mem z2, z3⟩⟩⟩
    · have hMl := hM.2.2.2.2.1
      have hFl2 := hF.2.2.2.2.1
      have es : xwr ((M.length : Int) + (F.length : Int)) = ((M.length + F.length : Nat) : Int) := by rw [xwr_g _ (by omega) (by omega)]; omega
      by_cases c : 100 ≤ M.length + F.length
      · exact ⟨0, G, e2.trans (st_156n hs hp hp16 (by omega) hM.2.2.2.1.2.1 hF.2.2.2.1.2.1 es c), fun _ _ _ _ _ _ => rfl, hp, .inr (.inl ⟨rfl, rfl, c, y2, z2⟩)⟩
      · have hl0 := v2.1
        obtain ⟨G2, g1, g2, g3⟩ := k_76 (f := f) (m := m) (rk := 0) (p := l0) hF hl0 (by omega) has hkz (by omega) hk (fun c hc => hK.2 c (by rw [hk]; exact hc))
        have e3 := e2.trans (st_156i (lo := l0) hs hp hp16 (by omega) hM.2.2.2.1.2.1 hF.2.2.2.1.2.1 es (by omega) (by rw [y1, xwr_g _ (by omega) (by omega)]; omega) g1)
        have e4 := e3.trans (st_156c (cm := cm) hs (by rw [g2 _ _ (by omega) (by omega) (by omega)]; exact hcm) (xwr_g _ (by omega) (by omega)))
        obtain ⟨s1, s2⟩ := ins_s (rk := 0) hFs hFl v2 y2
        have fr : ∀ b j, ¬ (b = 93 ∧ j = 15) → ¬ (b = 111 + 6 * p ∧ j = 1) → b ≠ 112 + 6 * p → b ≠ 113 + 6 * p → xup2 G2 93 15 (cm + 1) b j = G b j := fun b j q1 q2 q3 q4 => by rw [xup2_n q1, g2 b j q2 (by omega) (by omega)]
        refine ⟨1, _, e4, fr, hp.ge (fun b j hz => fr b j ?_ ?_ ?_ ?_), .inr (.inr ⟨rfl, y2, z2, xup2_s _ _ _ _, _, g3.ge (fun _ _ _ => rfl) (fun j => xup2_n (by omega)) (fun j => xup2_n (by omega)) (fun j => xup2_n (by omega)), s1, ⟨len_i9 hl0, by omega⟩, s2⟩)⟩
        · rcases hz with z | z | z | z | z | z | z | ⟨z, z1, z2, k, z3⟩ | z | z | z | ⟨k, z1, z2, z3⟩ <;> omega
        · rcases hz with z | z | z | z | z | z | z | ⟨z, z1, z2, k, z3⟩ | z | z | z | ⟨k, z1, z2, z3⟩ <;> omega
        · rcases hz with z | z | z | z | z | z | z | ⟨z, z1, z2, k, z3⟩ | z | z | z | ⟨k, z1, z2, z3⟩ <;> omega
        · rcases hz with z | z | z | z | z | z | z | ⟨z, z1, z2, k, z3⟩ | z | z | z | ⟨k, z1, z2, z3⟩ <;> omega
end
end
section
/-! THE CLASS: derive(), steps -/
def c155s (r2 : Nat → Nat → Int → xT_ → Option (Int × xT_)) (f : Nat) (x0 : Nat) (x1 : Nat) (x2 : Int) (R104 : (Int × xT_)) : Option (Int × xT_) := (if (R104.1) = 0 then c155_55  f  R104.2 else ((cq_gr 10 0 18 (x0) R104.2).bind fun v111 => ((cq_gr 10 9 18 (x0) R104.2).bind fun v113 => ((cq_is 9 14 (v111) R104.2).bind fun _ => ((c142 f (v111) (v113) R104.2).bind fun R115 => (if (R115.1) = 0 then c155_49 r2 f (x0) (x1) (x2) R115.2 else ((cq_gi 6 0 20 (x1) R115.2).bind fun v122 => ((cq_gr 10 9 18 (x0) R115.2).bind fun v124 => ((cq_is 10 18 (x0) R115.2).bind fun _ => ((c156 f (x0) (v122) (v124) R115.2).bind fun R126 => (if ¬ (R126.1) = 0 then c155_49 r2 f (x0) (x1) (x2) R126.2 else (some (0, R126.2)))))))))))))
theorem c155s_e (r2 : Nat → Nat → Int → xT_ → Option (Int × xT_)) (f : Nat) (x0 : Nat) (x1 : Nat) (x2 : Int) (T : xT_) : c155_2b r2 f x0 x1 x2 T = (if (10000000) ≤ (x2) then c155_55  f  T else ((cq_gr 10 0 18 (x0) T).bind fun v102 => ((cq_is 9 14 (v102) T).bind fun _ => ((c132 f (v102) T).bind fun R104 => c155s r2 f x0 x1 x2 R104)))) := rfl
def c155t (r2 : Nat → Nat → Int → xT_ → Option (Int × xT_)) (f : Nat) (x0 : Nat) (x1 : Nat) (x2 : Int) (R115 : (Int × xT_)) : Option (Int × xT_) := (if (R115.1) = 0 then c155_49 r2 f (x0) (x1) (x2) R115.2 else ((cq_gi 6 0 20 (x1) R115.2).bind fun v122 => ((cq_gr 10 9 18 (x0) R115.2).bind fun v124 => ((cq_is 10 18 (x0) R115.2).bind fun _ => ((c156 f (x0) (v122) (v124) R115.2).bind fun R126 => (if ¬ (R126.1) = 0 then c155_49 r2 f (x0) (x1) (x2) R126.2 else (some (0, R126.2))))))))
theorem c155t_e (r2 : Nat → Nat → Int → xT_ → Option (Int × xT_)) (f : Nat) (x0 : Nat) (x1 : Nat) (x2 : Int) (R104 : (Int × xT_)) : c155s r2 f x0 x1 x2 R104 = (if (R104.1) = 0 then c155_55  f  R104.2 else ((cq_gr 10 0 18 (x0) R104.2).bind fun v111 => ((cq_gr 10 9 18 (x0) R104.2).bind fun v113 => ((cq_is 9 14 (v111) R104.2).bind fun _ => ((c142 f (v111) (v113) R104.2).bind fun R115 => c155t r2 f x0 x1 x2 R115))))) := rfl
def c155w (r2 : Nat → Nat → Int → xT_ → Option (Int × xT_)) (f : Nat) (x0 : Nat) (x1 : Nat) (x2 : Int) (R126 : (Int × xT_)) : Option (Int × xT_) := (if ¬ (R126.1) = 0 then c155_49 r2 f (x0) (x1) (x2) R126.2 else (some (0, R126.2)))
theorem c155w_e (r2 : Nat → Nat → Int → xT_ → Option (Int × xT_)) (f : Nat) (x0 : Nat) (x1 : Nat) (x2 : Int) (R115 : (Int × xT_)) : c155t r2 f x0 x1 x2 R115 = (if (R115.1) = 0 then c155_49 r2 f (x0) (x1) (x2) R115.2 else ((cq_gi 6 0 20 (x1) R115.2).bind fun v122 => ((cq_gr 10 9 18 (x0) R115.2).bind fun v124 => ((cq_is 10 18 (x0) R115.2).bind fun _ => ((c156 f (x0) (v122) (v124) R115.2).bind fun R126 => c155w r2 f x0 x1 x2 R126))))) := rfl
section
variable {f u i p : Nat} {S : Nat → Nat × Nat × Nat} {G G1 G2 : xG_} {m : Nat × Nat} {r2 : Nat → Nat → Int → xT_ → Option (Int × xT_)} {w b : Int} {R : Int × xT_}
theorem st_155a (hs : cSs S) (hp : cPs G) (hi : i < 10000000) (e : c132 f 83 (S, G, m) = some R) : c155_2b r2 f 93 u (i : Int) (S, G, m) = c155s r2 f 93 u (i : Int) R := by
  rw [c155s_e]
  simp (disch := omega) only [cq_gi, cq_gr, cq_a, cq_s, cq_p, cq_pr, cq_is, cq_ar, cq_ab, cq_ln, xq_nz, Option.bind_some, xup2_n, xup2_s, Int.toNat_natCast, Int.reduceToNat, if_pos, if_neg, true_and, and_true, and_self, eq_self, if_true, reduceIte, not_true_eq_false, not_false_eq_true, or_true, true_or, s93 hs, s83 hs, p93_0 hp, e]
theorem st_155z : c155s r2 f 93 u (i : Int) (0, (S, G, m)) = some (1, (S, G, m)) := by
  rw [c155t_e]
  unfold c155_55
  simp (disch := omega) only [cq_gi, cq_gr, cq_a, cq_s, cq_p, cq_pr, cq_is, cq_ar, cq_ab, cq_ln, xq_nz, Option.bind_some, xup2_n, xup2_s, Int.toNat_natCast, Int.reduceToNat, if_pos, if_neg, true_and, and_true, and_self, eq_self, if_true, reduceIte, not_true_eq_false, not_false_eq_true, or_true, true_or, s93]
theorem st_155b (hs : cSs S) (hp : cPs G) (e : c142 f 83 103 (S, G, m) = some R) : c155s r2 f 93 u (i : Int) (1, (S, G, m)) = c155t r2 f 93 u (i : Int) R := by
  rw [c155t_e]
  simp (disch := omega) only [cq_gi, cq_gr, cq_a, cq_s, cq_p, cq_pr, cq_is, cq_ar, cq_ab, cq_ln, xq_nz, Option.bind_some, xup2_n, xup2_s, Int.toNat_natCast, Int.reduceToNat, if_pos, if_neg, true_and, and_true, and_self, eq_self, if_true, reduceIte, not_true_eq_false, not_false_eq_true, or_true, true_or, s93 hs, s83 hs, p93_0 hp, p93_9 hp, e, Int.reduceEq]
theorem st_155n (ei : xwr ((i : Int) + 1) = ((i + 1 : Nat) : Int)) : c155t r2 f 93 u (i : Int) (0, (S, G, m)) = r2 93 u ((i + 1 : Nat) : Int) (S, G, m) := by
  rw [c155w_e]
  unfold c155_49
  simp (disch := omega) only [cq_gi, cq_gr, cq_a, cq_s, cq_p, cq_pr, cq_is, cq_ar, cq_ab, cq_ln, xq_nz, Option.bind_some, xup2_n, xup2_s, Int.toNat_natCast, Int.reduceToNat, if_pos, if_neg, true_and, and_true, and_self, eq_self, if_true, reduceIte, not_true_eq_false, not_false_eq_true, or_true, true_or, ei]
theorem st_155c (hs : cSs S) (hp : cPs G) (hu : 278 < u) (us : S u = (1, 6, 20)) (h0 : G u 0 = (p : Int)) (e : c156 f 93 (p : Int) 103 (S, G, m) = some R) : c155t r2 f 93 u (i : Int) (1, (S, G, m)) = c155w r2 f 93 u (i : Int) R := by
  rw [c155w_e]
  simp (disch := omega) only [cq_gi, cq_gr, cq_a, cq_s, cq_p, cq_pr, cq_is, cq_ar, cq_ab, cq_ln, xq_nz, Option.bind_some, xup2_n, xup2_s, Int.toNat_natCast, Int.reduceToNat, if_pos, if_neg, true_and, and_true, and_self, eq_self, if_true, reduceIte, not_true_eq_false, not_false_eq_true, or_true, true_or, s93 hs, p93_9 hp, us, h0, e, Int.reduceEq]
theorem st_155y (ei : xwr ((i : Int) + 1) = ((i + 1 : Nat) : Int)) : c155w r2 f 93 u (i : Int) (1, (S, G, m)) = r2 93 u ((i + 1 : Nat) : Int) (S, G, m) := by
  unfold c155w c155_49
  simp (disch := omega) only [cq_gi, cq_gr, cq_a, cq_s, cq_p, cq_pr, cq_is, cq_ar, cq_ab, cq_ln, xq_nz, Option.bind_some, xup2_n, xup2_s, Int.toNat_natCast, Int.reduceToNat, if_pos, if_neg, true_and, and_true, and_self, eq_self, if_true, reduceIte, not_true_eq_false, not_false_eq_true, or_true, true_or, ei, Int.reduceEq]
theorem st_155o : c155w r2 f 93 u (i : Int) (0, (S, G, m)) = some (0, (S, G, m)) := by
  unfold c155w
  simp (disch := omega) only [cq_gi, cq_gr, cq_a, cq_s, cq_p, cq_pr, cq_is, cq_ar, cq_ab, cq_ln, xq_nz, Option.bind_some, xup2_n, xup2_s, Int.toNat_natCast, Int.reduceToNat, if_pos, if_neg, true_and, and_true, and_self, eq_self, if_true, reduceIte, not_true_eq_false, not_false_eq_true, or_true, true_or, s93]
end
end
section
/-! THE CLASS: derive() -/
section
variable {f u np nv a p fn : Nat} {S : Nat → Nat × Nat × Nat} {G G' : xG_} {m : Nat × Nat} {K : pCd} {Ls : List pLt} {pl : List Nat} {br : Int} {qn xp cp : Nat → Nat} {R : Nat → List pRw} {lo hi : Nat → Int} {Bf : Nat} {I : List pCd} {g : Int × Int × Int} {M : List pRw}
theorem k_155l (hf : 100003010 < f) (hp16 : p < 16) (hxp : ∀ q, q < np → 103 < xp q ∧ ∀ b, xp q ≤ b → b ≤ xp q + 2 → ¬ (111 + 6 * p ≤ b ∧ b ≤ 113 + 6 * p)) (hnI : I.length ≤ 4) (hwI : wIe nv I (-1)) (hBf : ∀ j, j < nv → Bf.testBit j = true) (hMs : M.Pairwise rwLt) : ∀ (V : List (Nat → Int)) (k i fu : Nat) (G : xG_) (F : List pRw) (cm : Int), cWE S G u K Ls pl 94 fn np nv a br qn xp cp R lo hi → wSt8 Ls pl a br R lo hi G Bf V k → k ≤ 100000000 → V.length < fu → i + V.length < 10000000 → cIt G u K g I → G u 3 = -1 → G u 0 = (p : Int) → cRw S G (108 + 6 * p) I.length 100 M → cRw S G (111 + 6 * p) I.length 100 F → F.Pairwise rwLt → (∀ r ∈ F, r.2 = 0) → G 93 15 = cm → 0 ≤ cm → cm + (V.length : Int) ≤ 10000000 → ∃ v G', c155_2 f fu 93 u (i : Int) (S, G, m) = some (v, (S, G', m)) ∧ (∀ b j, ¬ (83 ≤ b ∧ b ≤ 92) → ¬ (b = 93 ∧ j = 15) → b ≠ 103 → ¬ (111 + 6 * p ≤ b ∧ b ≤ 113 + 6 * p) → G' b j = G b j) ∧ cPs G' ∧
    ((v = 1 ∧ ∃ F', cRw S G' (111 + 6 * p) I.length 100 F' ∧ F'.Pairwise rwLt ∧ (∀ r ∈ F', r.2 = 0) ∧ (F.length ≤ F'.length ∧ (M.length + F.length ≤ 100 → M.length + F'.length ≤ 100)) ∧ G' 93 15 = cm + ((F'.length - F.length : Nat) : Int) ∧ ∀ xs, (∃ r ∈ F', r.1 = xs) ↔ (∃ r ∈ F, r.1 = xs) ∨ ((∀ r ∈ M, r.1 ≠ xs) ∧ ∃ v ∈ V, qMk I (-1) v I.length = some xs)) ∨
     (v = 0 ∧ ∃ W : List (List Int), W.Nodup ∧ 100 < M.length + W.length ∧ ∀ xs ∈ W, (∃ r ∈ F, r.1 = xs) ∨ ((∀ r ∈ M, r.1 ≠ xs) ∧ ∃ v ∈ V, qMk I (-1) v I.length = some xs))) := by
  intro V
  induction V with
  | nil =>
    intro k i fu G F cm h hs hk hfu hii hI hg h0 hM hF hFs hF0 hcm hc0 hc1
    obtain ⟨fu, rfl⟩ : ∃ t, fu = t + 1 := ⟨fu - 1, by omega⟩
    rcases k_next (m := m) hf h hs hk with ⟨G1, e1, e2, e3⟩ | ⟨G1, v, V', k', e1, e2, e3, _⟩
    · have st : c155_2 f (fu + 1) 93 u (i : Int) (S, G, m) = _ := (st_155a (r2 := c155_2 f fu) (u := u) h.1.1 h.1.2.1 (by simp at hii; omega) e1).trans st_155z
      refine ⟨1, G1, st, fun b j y1 _ _ _ => e2 b j (by omega) (by omega) (by omega), (h.ge e2).1.2.1, .inl ⟨rfl, F, hF.ge (fun _ _ _ => rfl) (fun j => e2 _ _ (by omega) (by omega) (by omega)) (fun j => e2 _ _ (by omega) (by omega) (by omega)) (fun j => e2 _ _ (by omega) (by omega) (by omega)), hFs, hF0, ⟨Nat.le_refl _, id⟩, ?_, fun xs => ⟨.inl, fun q => q.elim id (fun ⟨_, v, v1, _⟩ => nomatch v1)⟩⟩⟩
      rw [e2 _ _ (by omega) (by omega) (by omega), hcm, Nat.sub_self]
      show cm = cm + 0
      omega
    · cases e3
  | cons v0 V ih =>
    intro k i fu G F cm h hs hk hfu hii hI hg h0 hM hF hFs hF0 hcm hc0 hc1
    rw [List.length_cons] at hfu hii hc1
    obtain ⟨fu, rfl⟩ : ∃ t, fu = t + 1 := ⟨fu - 1, by omega⟩
    rcases k_next (m := m) hf h hs hk with ⟨G1, e1, e2, e3⟩ | ⟨G1, v, V', k', e1, e2, e3, e4, e5, e6⟩
    · cases e3
    · injection e3 with q1 q2
      subst q1 q2
      have h1 := h.ge e2
      have hu := h.2.1.2.2.2.2.1
      have ei : xwr ((i : Int) + 1) = ((i + 1 : Nat) : Int) := by rw [xwr_g _ (by omega) (by omega)]; omega
      have hI1 : cIt G1 u K g I := hI.fx hu (fun b j y => e2 b j (by omega) (by omega) (by omega))
      have hV1 : ∀ c, c < I.length → (c : Int) ≠ -1 → cVl G1 (qVm (I.getD c [])) v0 := fun c hc hn j hj => e6 j (hBf j (qVm_in (hwI c hc hn).1.1 j hj))
      obtain ⟨b, G2, g1, g2, g3⟩ := k_142h (f := f) (m := m) (vl := v0) (by omega) hnI hwI h1.wy hI1 (by rw [e2 _ _ (by omega) (by omega) (by omega)]; exact hg) hV1
      have st1 : c155_2 f (fu + 1) 93 u (i : Int) (S, G, m) = _ := (st_155a (r2 := c155_2 f fu) (u := u) h.1.1 h.1.2.1 (by omega) e1).trans (st_155b h.1.1 h1.1.2.1 g1)
      have ps2 : cPs G2 := h1.1.2.1.ge (fun b j hz => g2 b j (by
        rcases hz with z | z | z | z | z | z | z | ⟨z, z1, z2, k, z3⟩ | z | z | z | ⟨k, z1, z2, z3⟩ <;> omega) (by
        rcases hz with z | z | z | z | z | z | z | ⟨z, z1, z2, k, z3⟩ | z | z | z | ⟨k, z1, z2, z3⟩ <;> omega))
      have z2 : ∀ b j, ¬ (83 ≤ b ∧ b ≤ 92) → b ≠ 103 → G2 b j = G b j := fun b j y1 y2 => by rw [g2 b j (by omega) y2, e2 b j (by omega) (by omega) (by omega)]
      have ws2 : cWE S G2 u K Ls pl 94 fn np nv a br qn xp cp R lo hi := by
        obtain ⟨⟨a1, a2, a3, a4, a5, a6, a7, a8⟩, b1, c1, ⟨d1, d2⟩, e1', f1⟩ := h1
        refine ⟨⟨a1, ps2, by rw [g2 _ _ (by omega) (by omega)]; exact a3, by rw [g2 _ _ (by omega) (by omega)]; exact a4, by rw [g2 _ _ (by omega) (by omega)]; exact a5, a6, a7, a8⟩, b1.fx (fun b j y => g2 b j (by omega) (by omega)), c1, ⟨d1, fun k hk => ?_⟩, fun q hq => ?_, fun l hl => ?_⟩
        · rw [g2 _ _ (by omega) (by omega), g2 _ _ (by omega) (by omega)]; exact d2 k hk
        · obtain ⟨q1, q2, q3, q4⟩ := e1' q hq
          have := (hxp q hq).1
          exact ⟨by rw [g2 _ _ (by omega) (by omega)]; exact q1, q2, q3.ge (fun _ _ _ => rfl) (fun j => g2 _ _ (by omega) (by omega)) (fun j => g2 _ _ (by omega) (by omega)) (fun j => g2 _ _ (by omega) (by omega)), q4⟩
        · rw [g2 _ _ (by omega) (by omega), g2 _ _ (by omega) (by omega)]; exact f1 l hl
      have wst2 : wSt8 Ls pl a br R lo hi G2 Bf V k' := by
        rcases e5 with ⟨st, b, vl, V1, k1, V2, k2, a1, a2, a3, a4, a5, a6, a7, a8, a9, a10⟩ | ⟨n, B, a1, a2, a3, a4, a5⟩
        · exact .inl ⟨st, b, vl, V1, k1, V2, k2, a1, by rw [g2 _ _ (by omega) (by omega)]; exact a2, by rw [g2 _ _ (by omega) (by omega)]; exact a3, a4.ge (g2 _ _ (by omega) (by omega)) (fun j _ => g2 _ _ (by omega) (by omega)), a5, a6, a7, a8.ge _ _ _ _ (fun a j _ _ _ => g2 _ _ (by omega) (by omega)) (g2 _ _ (by omega) (by omega)) (fun j _ => g2 _ _ (by omega) (by omega)), a9, a10⟩
        · exact .inr ⟨n, B, a1, by rw [g2 _ _ (by omega) (by omega)]; exact a2, by rw [g2 _ _ (by omega) (by omega)]; exact a3, a4, a5.ge _ _ _ _ (fun a j _ _ _ => g2 _ _ (by omega) (by omega)) (g2 _ _ (by omega) (by omega)) (fun j _ => g2 _ _ (by omega) (by omega))⟩
      have hI2 : cIt G2 u K g I := hI.fx hu (fun b j y => z2 b j (by omega) (by omega))
      have hM2 : cRw S G2 (108 + 6 * p) I.length 100 M := hM.ge (fun _ _ _ => rfl) (fun j => z2 _ _ (by omega) (by omega)) (fun j => z2 _ _ (by omega) (by omega)) (fun j => z2 _ _ (by omega) (by omega))
      have hF2 : cRw S G2 (111 + 6 * p) I.length 100 F := hF.ge (fun _ _ _ => rfl) (fun j => z2 _ _ (by omega) (by omega)) (fun j => z2 _ _ (by omega) (by omega)) (fun j => z2 _ _ (by omega) (by omega))
      have hg2 : G2 u 3 = -1 := by rw [z2 _ _ (by omega) (by omega)]; exact hg
      have h02 : G2 u 0 = (p : Int) := by rw [z2 _ _ (by omega) (by omega)]; exact h0
      have hcm2 : G2 93 15 = cm := by rw [z2 _ _ (by omega) (by omega)]; exact hcm
      -- the WAYS that come behind: nothing new from v0
      have skip : (∀ xs, qMk I (-1) v0 I.length = some xs → (∃ r ∈ F, r.1 = xs) ∨ ∃ r ∈ M, r.1 = xs) → ∀ (G3 : xG_), G3 = G2 → c155_2 f (fu + 1) 93 u (i : Int) (S, G, m) = c155_2 f fu 93 u ((i + 1 : Nat) : Int) (S, G3, m) → ∃ v G', c155_2 f (fu + 1) 93 u (i : Int) (S, G, m) = some (v, (S, G', m)) ∧ (∀ b j, ¬ (83 ≤ b ∧ b ≤ 92) → ¬ (b = 93 ∧ j = 15) → b ≠ 103 → ¬ (111 + 6 * p ≤ b ∧ b ≤ 113 + 6 * p) → G' b j = G b j) ∧ cPs G' ∧ ((v = 1 ∧ ∃ F', cRw S G' (111 + 6 * p) I.length 100 F' ∧ F'.Pairwise rwLt ∧ (∀ r ∈ F', r.2 = 0) ∧ (F.length ≤ F'.length ∧ (M.length + F.length ≤ 100 → M.length + F'.length ≤ 100)) ∧ G' 93 15 = cm + ((F'.length - F.length : Nat) : Int) ∧ ∀ xs, (∃ r ∈ F', r.1 = xs) ↔ (∃ r ∈ F, r.1 = xs) ∨ ((∀ r ∈ M, r.1 ≠ xs) ∧ ∃ v ∈ v0 :: V, qMk I (-1) v I.length = some xs)) ∨ (v = 0 ∧ ∃ W : List (List Int), W.Nodup ∧ 100 < M.length + W.length ∧ ∀ xs ∈ W, (∃ r ∈ F, r.1 = xs) ∨ ((∀ r ∈ M, r.1 ≠ xs) ∧ ∃ v ∈ v0 :: V, qMk I (-1) v I.length = some xs))) := fun hn G3 hG3 est => by
        subst hG3
        obtain ⟨v, G4, i1, i2, i3, i4⟩ := ih k' (i + 1) fu G3 F cm ws2 wst2 (by omega) (by omega) (by omega) hI2 hg2 h02 hM2 hF2 hFs hF0 hcm2 hc0 (by omega)
        refine ⟨v, G4, est.trans i1, fun b j y1 y2 y3 y4 => by rw [i2 b j y1 y2 y3 y4, z2 b j y1 y3], i3, ?_⟩
        rcases i4 with ⟨j1, F', j2, j3, j4, j5, j6, j7⟩ | ⟨j1, W, j2, j3, j4⟩
        · refine .inl ⟨j1, F', j2, j3, j4, j5, j6, fun xs => (j7 xs).trans ⟨fun q => q.imp id (fun ⟨q1, v, q2, q3⟩ => ⟨q1, v, List.mem_cons_of_mem _ q2, q3⟩), fun q => ?_⟩⟩
          rcases q with q | ⟨q1, v, q2, q3⟩
          · exact .inl q
          · rcases List.mem_cons.mp q2 with e | e
            · subst e
              rcases hn xs q3 with z | ⟨r, r1, r2⟩
              · exact .inl z
              · exact absurd r2 (q1 r r1)
            · exact .inr ⟨q1, v, e, q3⟩
        · exact .inr ⟨j1, W, j2, j3, fun xs hx => (j4 xs hx).imp id (fun ⟨q1, v, q2, q3⟩ => ⟨q1, v, List.mem_cons_of_mem _ q2, q3⟩)⟩
      rcases g3 with ⟨b1, ys, y1, y2⟩ | ⟨b0, y1⟩
      · subst b1
        have ly : ys.length = I.length := qMk_len _ _ y1
        have hK : cKl S G2 103 ys := ⟨⟨4, s103 h.1.1, by omega⟩, fun c hc => y2 c (by omega)⟩
        obtain ⟨v, G3, k1, k2, k3, k4⟩ := k_156 (f := f) (m := m) (kl := ys) (a := 103) (cm := cm) (by omega) h.1.1 ps2 hp16 hM2 hF2 hMs hFs ly hK (s103 h.1.1) (by omega) (by omega) hcm2 (by omega)
        have st2 := st1.trans (st_155c h.1.1 ps2 hu h.wy.2.2.2.2.1.1 h02 k1)
        rcases k4 with ⟨rfl, rfl, q⟩ | ⟨rfl, rfl, q1, q2, q3⟩ | ⟨rfl, q1, q2, q3, F1, q4, q5, q6, q7⟩
        · refine skip (fun xs hx => ?_) _ rfl (st2.trans (st_155y ei))
          rw [y1] at hx
          injection hx with hx
          subst hx
          exact q
        · refine ⟨0, _, st2.trans st_155o, fun b j w1 w2 w3 w4 => z2 b j w1 w3, ps2, .inr ⟨rfl, ys :: F.map (·.1), ?_, by rw [List.length_cons, List.length_map]; omega, fun xs hx => ?_⟩⟩
          · refine List.nodup_cons.mpr ⟨fun q => ?_, ?_⟩
            · obtain ⟨r, r1, r2⟩ := List.mem_map.mp q
              exact q2 r r1 r2
            · rw [List.nodup_iff_pairwise_ne, List.pairwise_map]
              exact hFs.imp (fun {r1 r2} hab => fun (e : r1.1 = r2.1) => vLt_irr r2.1 (by have hab' : vLt r1.1 r2.1 := hab; rw [e] at hab'; exact hab'))
          · rcases List.mem_cons.mp hx with e | e
            · subst e; exact .inr ⟨q3, v0, List.mem_cons_self, y1⟩
            · obtain ⟨r, r1, r2⟩ := List.mem_map.mp e
              exact .inl ⟨r, r1, r2⟩
        · have z3 : ∀ b j, ¬ (83 ≤ b ∧ b ≤ 92) → ¬ (b = 93 ∧ j = 15) → b ≠ 103 → ¬ (111 + 6 * p ≤ b ∧ b ≤ 113 + 6 * p) → G3 b j = G b j := fun b j w1 w2 w3 w4 => by rw [k2 b j w2 (by omega) (by omega) (by omega), z2 b j w1 w3]
          have z4 : ∀ b j, ¬ (b = 93 ∧ j = 15) → ¬ (111 + 6 * p ≤ b ∧ b ≤ 113 + 6 * p) → G3 b j = G2 b j := fun b j w2 w4 => k2 b j w2 (by omega) (by omega) (by omega)
          have ws3 : cWE S G3 u K Ls pl 94 fn np nv a br qn xp cp R lo hi := ws2.out (fun q hq b w1 w2 j => z4 b j (by have := (hxp q hq).1; omega) ((hxp q hq).2 b w1 w2)) k3 (fun b j w1 w2 => z4 b j (by omega) (by omega)) (fun j => z4 _ _ (by omega) (by omega)) (fun b j w => z4 b j (by omega) (by omega))
          obtain ⟨v, G4, i1, i2, i3, i4⟩ := ih k' (i + 1) fu G3 F1 (cm + 1) ws3 (wst2.ge (fun b j w1 w2 => z4 b j (by omega) (by omega))) (by omega) (by omega) (by omega) (hI.fx hu (fun b j w => z3 b j (by omega) (by omega) (by omega) (by omega))) (by rw [z3 _ _ (by omega) (by omega) (by omega) (by omega)]; exact hg) (by rw [z3 _ _ (by omega) (by omega) (by omega) (by omega)]; exact h0) (hM.ge (fun _ _ _ => rfl) (fun j => z3 _ _ (by omega) (by omega) (by omega) (by omega)) (fun j => z3 _ _ (by omega) (by omega) (by omega) (by omega)) (fun j => z3 _ _ (by omega) (by omega) (by omega) (by omega))) q4 q5 (fun r hr => by
            rcases (q7 r).mp hr with e | e
            · exact hF0 r e
            · rw [e]) q3 (by omega) (by omega)
          have mem : ∀ xs, (∃ r ∈ F1, r.1 = xs) ↔ (∃ r ∈ F, r.1 = xs) ∨ xs = ys := fun xs => by
            constructor
            · rintro ⟨r, r1, r2⟩
              rcases (q7 r).mp r1 with e | e
              · exact .inl ⟨r, e, r2⟩
              · rw [e] at r2; exact .inr r2.symm
            · rintro (⟨r, r1, r2⟩ | e)
              · exact ⟨r, (q7 r).mpr (.inl r1), r2⟩
              · exact ⟨_, (q7 _).mpr (.inr rfl), e.symm⟩
          refine ⟨v, G4, (st2.trans (st_155y ei)).trans i1, fun b j w1 w2 w3 w4 => by rw [i2 b j w1 w2 w3 w4, z3 b j w1 w2 w3 w4], i3, ?_⟩
          rcases i4 with ⟨j1, F', j2, j3, j4, j5, j6, j7⟩ | ⟨j1, W, j2, j3, j4⟩
          · refine .inl ⟨j1, F', j2, j3, j4, by omega, by rw [j6, q6.1]; omega, fun xs => (j7 xs).trans ?_⟩
            rw [mem]
            constructor
            · rintro ((e | e) | ⟨e1, v, e2, e3⟩)
              · exact .inl e
              · subst e; exact .inr ⟨q2, v0, List.mem_cons_self, y1⟩
              · exact .inr ⟨e1, v, List.mem_cons_of_mem _ e2, e3⟩
            · rintro (e | ⟨e1, v, e2, e3⟩)
              · exact .inl (.inl e)
              · rcases List.mem_cons.mp e2 with e | e
                · subst e
                  rw [y1] at e3
                  injection e3 with e3
                  exact .inl (.inr e3.symm)
                · exact .inr ⟨e1, v, e, e3⟩
          · refine .inr ⟨j1, W, j2, j3, fun xs hx => ?_⟩
            rcases j4 xs hx with e | ⟨e1, v, e2, e3⟩
            · rcases (mem xs).mp e with e | e
              · exact .inl e
              · subst e; exact .inr ⟨q2, v0, List.mem_cons_self, y1⟩
            · exact .inr ⟨e1, v, List.mem_cons_of_mem _ e2, e3⟩
      · subst b0
        exact skip (fun xs hx => by rw [y1] at hx; cases hx) _ rfl (st1.trans (st_155n ei))
end
end
section
/-! THE CLASS: takeFresh(), one predicate -/
def c154s (r29 : Nat → Int → Int → Int → Int → xT_ → Option (xT_)) (f : Nat) (x0 : Nat) (x1 : Int) (x2 : Int) (x3 : Int) (x4 : Int) (R123 : (xT_)) : Option (xT_) := ((cq_gr 10 4 18 (x0) R123).bind fun v129 => ((cq_ar (v129) (x3) R123).bind fun v131 => ((cq_gr 10 4 18 (x0) R123).bind fun v133 => ((cq_ar (v133) (x3) R123).bind fun v135 => ((cq_gr 10 9 18 (x0) R123).bind fun v137 => ((cq_is 5 4 (v135) R123).bind fun _ => ((c74 f (v135) (v137) R123).bind fun R139 => ((cq_gr 10 9 18 (x0) R139.2).bind fun v145 => ((cq_is 5 4 (v131) R139.2).bind fun _ => ((c76 f (v131) (xwr ((-1) - (R139.1))) (v145) (x2) R139.2).bind fun R147 => r29 (x0) (x1) (x2) (x3) (xwr ((x4) + (1))) R147))))))))))
theorem c154s_e (r2 : Nat → Int → Int → Int → xT_ → Option (xT_)) (r29 : Nat → Int → Int → Int → Int → xT_ → Option (xT_)) (f : Nat) (x0 : Nat) (x1 : Int) (x2 : Int) (x3 : Int) (x4 : Int) (T : xT_) : c154_29b r2 r29 f x0 x1 x2 x3 x4 T = ((cq_gr 10 5 18 (x0) T).bind fun v101 => ((cq_ar (v101) (x3) T).bind fun v103 => ((cq_gi 5 1 4 (v103) T).bind fun v105 => (if (v105) ≤ (x4) then ((cq_gr 10 5 18 (x0) T).bind fun v108 => ((cq_ar (v108) (x3) T).bind fun v110 => ((cq_p 5 1 4 (v110) (0) T).bind fun T113 => c154_103 r2 f (x0) (x1) (x2) (x3) T113))) else ((cq_gr 10 5 18 (x0) T).bind fun v117 => ((cq_ar (v117) (x3) T).bind fun v119 => ((cq_gr 10 9 18 (x0) T).bind fun v121 => ((cq_is 5 4 (v119) T).bind fun _ => ((c78 f (v119) (x4) (v121) T).bind fun R123 => c154s r29 f x0 x1 x2 x3 x4 R123))))))))) := rfl
def c154t (r29 : Nat → Int → Int → Int → Int → xT_ → Option (xT_)) (f : Nat) (x0 : Nat) (x1 : Int) (x2 : Int) (x3 : Int) (x4 : Int) (v131 : Nat) (R139 : (Int × xT_)) : Option (xT_) := ((cq_gr 10 9 18 (x0) R139.2).bind fun v145 => ((cq_is 5 4 (v131) R139.2).bind fun _ => ((c76 f (v131) (xwr ((-1) - (R139.1))) (v145) (x2) R139.2).bind fun R147 => r29 (x0) (x1) (x2) (x3) (xwr ((x4) + (1))) R147)))
theorem c154t_e (r29 : Nat → Int → Int → Int → Int → xT_ → Option (xT_)) (f : Nat) (x0 : Nat) (x1 : Int) (x2 : Int) (x3 : Int) (x4 : Int) (R123 : (xT_)) : c154s r29 f x0 x1 x2 x3 x4 R123 = ((cq_gr 10 4 18 (x0) R123).bind fun v129 => ((cq_ar (v129) (x3) R123).bind fun v131 => ((cq_gr 10 4 18 (x0) R123).bind fun v133 => ((cq_ar (v133) (x3) R123).bind fun v135 => ((cq_gr 10 9 18 (x0) R123).bind fun v137 => ((cq_is 5 4 (v135) R123).bind fun _ => ((c74 f (v135) (v137) R123).bind fun R139 => c154t r29 f x0 x1 x2 x3 x4 v131 R139))))))) := rfl
def c154w (r29 : Nat → Int → Int → Int → Int → xT_ → Option (xT_)) (f : Nat) (x0 : Nat) (x1 : Int) (x2 : Int) (x3 : Int) (x4 : Int) (R147 : (xT_)) : Option (xT_) := r29 (x0) (x1) (x2) (x3) (xwr ((x4) + (1))) R147
theorem c154w_e (r29 : Nat → Int → Int → Int → Int → xT_ → Option (xT_)) (f : Nat) (x0 : Nat) (x1 : Int) (x2 : Int) (x3 : Int) (x4 : Int) (v131 : Nat) (R139 : (Int × xT_)) : c154t r29 f x0 x1 x2 x3 x4 v131 R139 = ((cq_gr 10 9 18 (x0) R139.2).bind fun v145 => ((cq_is 5 4 (v131) R139.2).bind fun _ => ((c76 f (v131) (xwr ((-1) - (R139.1))) (v145) (x2) R139.2).bind fun R147 => c154w r29 f x0 x1 x2 x3 x4 R147))) := rfl
section
variable {f p i n W lo : Nat} {S : Nat → Nat × Nat × Nat} {G G1 : xG_} {m : Nat × Nat} {M F : List pRw} {rg lv v : Int} {r2 : Nat → Int → Int → Int → xT_ → Option (xT_)} {r29 : Nat → Int → Int → Int → Int → xT_ → Option (xT_)} {T : xT_} {R : Int × xT_}
theorem st_154z (hs : cSs S) (hp : cPs G) (hp16 : p < 16) (h1 : G (111 + 6 * p) 1 = (n : Int)) (hi : n ≤ i) (ep : xwr ((p : Int) + 1) = ((p + 1 : Nat) : Int)) : c154_29b r2 r29 f 93 rg lv (p : Int) (i : Int) (S, G, m) = r2 93 rg lv ((p + 1 : Nat) : Int) (S, xup2 G (111 + 6 * p) 1 0, m) := by
  rw [c154s_e]
  unfold c154_103
  simp (disch := omega) only [cq_gi, cq_gr, cq_a, cq_s, cq_p, cq_pr, cq_is, cq_ar, cq_ab, cq_ln, xq_nz, Option.bind_some, xup2_n, xup2_s, Int.toNat_natCast, Int.reduceToNat, if_pos, if_neg, true_and, and_true, and_self, eq_self, if_true, reduceIte, not_true_eq_false, not_false_eq_true, or_true, true_or, s93 hs, s97 hs, p93_5 hp, (p_mk hp hp16).2, (s_mk hs hp16).2.2.2.1, h1, ep]
theorem st_154a (hs : cSs S) (hp : cPs G) (hp16 : p < 16) (h1 : G (111 + 6 * p) 1 = (n : Int)) (hi : i < n) (e : c78 f (111 + 6 * p) (i : Int) 103 (S, G, m) = some T) : c154_29b r2 r29 f 93 rg lv (p : Int) (i : Int) (S, G, m) = c154s r29 f 93 rg lv (p : Int) (i : Int) T := by
  rw [c154s_e]
  simp (disch := omega) only [cq_gi, cq_gr, cq_a, cq_s, cq_p, cq_pr, cq_is, cq_ar, cq_ab, cq_ln, xq_nz, Option.bind_some, xup2_n, xup2_s, Int.toNat_natCast, Int.reduceToNat, if_pos, if_neg, true_and, and_true, and_self, eq_self, if_true, reduceIte, not_true_eq_false, not_false_eq_true, or_true, true_or, s93 hs, s97 hs, p93_5 hp, p93_9 hp, (p_mk hp hp16).2, (s_mk hs hp16).2.2.2.1, h1, e]
theorem st_154b (hs : cSs S) (hp : cPs G) (hp16 : p < 16) (e : c74 f (108 + 6 * p) 103 (S, G, m) = some R) : c154s r29 f 93 rg lv (p : Int) (i : Int) (S, G, m) = c154t r29 f 93 rg lv (p : Int) (i : Int) (108 + 6 * p) R := by
  rw [c154t_e]
  simp (disch := omega) only [cq_gi, cq_gr, cq_a, cq_s, cq_p, cq_pr, cq_is, cq_ar, cq_ab, cq_ln, xq_nz, Option.bind_some, xup2_n, xup2_s, Int.toNat_natCast, Int.reduceToNat, if_pos, if_neg, true_and, and_true, and_self, eq_self, if_true, reduceIte, not_true_eq_false, not_false_eq_true, or_true, true_or, s93 hs, s96 hs, p93_4 hp, p93_9 hp, (p_mk hp hp16).1, (s_mk hs hp16).1, e]
theorem st_154c (hs : cSs S) (hp : cPs G) (hp16 : p < 16) (ev : xwr (-1 - v) = (lo : Int)) (e : c76 f (108 + 6 * p) (lo : Int) 103 lv (S, G, m) = some T) (ei : xwr ((i : Int) + 1) = ((i + 1 : Nat) : Int)) : c154t r29 f 93 rg lv (p : Int) (i : Int) (108 + 6 * p) (v, (S, G, m)) = r29 93 rg lv (p : Int) ((i + 1 : Nat) : Int) T := by
  rw [c154w_e]
  unfold c154w
  simp (disch := omega) only [cq_gi, cq_gr, cq_a, cq_s, cq_p, cq_pr, cq_is, cq_ar, cq_ab, cq_ln, xq_nz, Option.bind_some, xup2_n, xup2_s, Int.toNat_natCast, Int.reduceToNat, if_pos, if_neg, true_and, and_true, and_self, eq_self, if_true, reduceIte, not_true_eq_false, not_false_eq_true, or_true, true_or, s93 hs, p93_9 hp, (s_mk hs hp16).1, ev, e, ei]
/-- the rows of this level come to those that are made -/
theorem k_154i (hf : 600 < f) (hs : cSs S) (hp16 : p < 16) (hW : W ≤ 4) (hFs : F.Pairwise rwLt) : ∀ (d i fu : Nat) (G : xG_) (M : List pRw), i + d = F.length → d < fu → cPs G → cRw S G (108 + 6 * p) W 100 M → cRw S G (111 + 6 * p) W 100 F → M.Pairwise rwLt → M.length + d ≤ 100 → (∀ r ∈ F.drop i, ∀ z ∈ M, z.1 ≠ r.1) → ∃ G' M', c154_29 r2 f fu 93 rg lv (p : Int) (i : Int) (S, G, m) = r2 93 rg lv ((p + 1 : Nat) : Int) (S, G', m) ∧ (∀ b j, b ≠ 103 → ¬ (b = 108 + 6 * p ∧ j = 1) → b ≠ 109 + 6 * p → b ≠ 110 + 6 * p → ¬ (b = 111 + 6 * p ∧ j = 1) → G' b j = G b j) ∧ cPs G' ∧ cRw S G' (108 + 6 * p) W 100 M' ∧ cRw S G' (111 + 6 * p) W 100 [] ∧ M'.Pairwise rwLt ∧ M'.length = M.length + d ∧ ∀ z, z ∈ M' ↔ z ∈ M ∨ ∃ r ∈ F.drop i, z = (r.1, lv) := by
  have ep : xwr ((p : Int) + 1) = ((p + 1 : Nat) : Int) := by rw [xwr_g _ (by omega) (by omega)]; omega
  have pst : ∀ {G G' : xG_}, cPs G → (∀ b j, b ≠ 103 → ¬ (b = 108 + 6 * p ∧ j = 1) → b ≠ 109 + 6 * p → b ≠ 110 + 6 * p → ¬ (b = 111 + 6 * p ∧ j = 1) → G' b j = G b j) → cPs G' := fun {G G'} hp hf => hp.ge (fun b j hz => by
    have : b ≠ 103 ∧ ¬ (b = 108 + 6 * p ∧ j = 1) ∧ b ≠ 109 + 6 * p ∧ b ≠ 110 + 6 * p ∧ ¬ (b = 111 + 6 * p ∧ j = 1) := by
      rcases hz with z | z | z | z | z | z | z | ⟨z, z1, z2, k, z3⟩ | z | z | z | ⟨k, z1, z2, z3⟩ <;> omega
    exact hf b j this.1 this.2.1 this.2.2.1 this.2.2.2.1 this.2.2.2.2)
  intro d
  induction d with
  | zero =>
    intro i fu G M e1 e2 hp hM hF hMs hlen hdis
    obtain ⟨fu, rfl⟩ : ∃ t, fu = t + 1 := ⟨fu - 1, by omega⟩
    have st : c154_29 r2 f (fu + 1) 93 rg lv (p : Int) (i : Int) (S, G, m) = _ := st_154z (r2 := r2) (r29 := c154_29 r2 f fu) hs hp hp16 hF.2.2.2.1.2.1 (by omega) ep
    have z : ∀ b j, ¬ (b = 111 + 6 * p ∧ j = 1) → xup2 G (111 + 6 * p) 1 0 b j = G b j := fun b j y => xup2_n y
    have hd : F.drop i = [] := List.drop_eq_nil_of_le (by omega)
    refine ⟨_, M, st, fun b j _ _ _ _ y => z b j y, pst hp (fun b j _ _ _ _ y => z b j y), hM.ge (fun _ _ _ => rfl) (fun j => z _ _ (by omega)) (fun j => z _ _ (by omega)) (fun j => z _ _ (by omega)), ?_, hMs, rfl, fun x => ⟨.inl, fun q => q.elim id (fun ⟨r, r1, _⟩ => by rw [hd] at r1; cases r1)⟩⟩
    obtain ⟨a1, a2, a3, ⟨b1, b2, b3, b4⟩, a5, a6, a7, a8⟩ := hF
    exact ⟨a1, a2, a3, ⟨by rw [z _ _ (by omega)]; exact b1, by rw [xup2_s]; rfl, by rw [z _ _ (by omega)]; exact b3, by rw [z _ _ (by omega)]; exact b4⟩, Nat.zero_le _, a6, a7, fun j hj => absurd hj (Nat.not_lt_zero j)⟩
  | succ d ih =>
    intro i fu G M e1 e2 hp hM hF hMs hlen hdis
    obtain ⟨fu, rfl⟩ : ∃ t, fu = t + 1 := ⟨fu - 1, by omega⟩
    have hi : i < F.length := by omega
    have hFl := hF.2.2.2.2.1
    have ei : xwr ((i : Int) + 1) = ((i + 1 : Nat) : Int) := by rw [xwr_g _ (by omega) (by omega)]; omega
    obtain ⟨G1, g1, g2, g3⟩ := k_78 (f := f) (m := m) (i := i) hF hi (s103 hs) hW (by omega)
    have st1 : c154_29 r2 f (fu + 1) 93 rg lv (p : Int) (i : Int) (S, G, m) = _ := st_154a (r2 := r2) (r29 := c154_29 r2 f fu) (rg := rg) (lv := lv) hs hp hp16 hF.2.2.2.1.2.1 hi g1
    have z1 : ∀ b j, b ≠ 103 → G1 b j = G b j := fun b j y => g2 b j (fun q => y q.1)
    have hp1 : cPs G1 := pst hp (fun b j y _ _ _ _ => z1 b j y)
    have hM1 : cRw S G1 (108 + 6 * p) W 100 M := hM.ge (fun _ _ _ => rfl) (fun j => z1 _ _ (by omega)) (fun j => z1 _ _ (by omega)) (fun j => z1 _ _ (by omega))
    have hF1 : cRw S G1 (111 + 6 * p) W 100 F := hF.ge (fun _ _ _ => rfl) (fun j => z1 _ _ (by omega)) (fun j => z1 _ _ (by omega)) (fun j => z1 _ _ (by omega))
    have ll := (hF.2.2.2.2.2.2.2 i hi).1
    have hK : cKl S G1 103 (F.getD i dRw).1 := ⟨⟨4, s103 hs, by omega⟩, fun c hc => g3 c (by omega)⟩
    have ed : F.drop i = F.getD i dRw :: F.drop (i + 1) := by rw [getD_e hi]; exact List.drop_eq_getElem_cons hi
    have nin : ∀ z ∈ M, z.1 ≠ (F.getD i dRw).1 := hdis _ (by rw [ed]; exact List.mem_cons_self)
    obtain ⟨v, v1, l0, v2, v3⟩ := k_74 (f := f) (m := m) hf hM1 hMs ll hK
    have hl0 := v2.1
    rcases v3 with ⟨y1, y2, y3⟩ | ⟨y1, y2⟩
    · exact absurd y3 (nin _ (by rw [getD_e y2]; exact List.getElem_mem y2))
    · obtain ⟨G2, i1, i2, i3⟩ := k_76 (f := f) (m := m) (rk := lv) (p := l0) hM1 hl0 (by omega) (s103 hs) hW (by omega) ll (fun c hc => g3 c hc)
      have st2 := st1.trans ((st_154b hs hp1 hp16 v1).trans (st_154c hs hp1 hp16 (by rw [y1, xwr_g _ (by omega) (by omega)]; omega) i1 ei))
      have hMl : ∀ r ∈ M, r.1.length = (F.getD i dRw).1.length := fun r hr => by
        obtain ⟨j, hj, ej⟩ := List.getElem_of_mem hr
        have := (hM.2.2.2.2.2.2.2 j hj).1
        rw [getD_e hj, ej] at this
        omega
      obtain ⟨s1, s2⟩ := ins_s (rk := lv) hMs hMl v2 y2
      have z2 : ∀ b j, b ≠ 103 → ¬ (b = 108 + 6 * p ∧ j = 1) → b ≠ 109 + 6 * p → b ≠ 110 + 6 * p → G2 b j = G b j := fun b j w1 w2 w3 w4 => by rw [i2 b j w2 (by omega) (by omega), z1 b j w1]
      have hF2 : cRw S G2 (111 + 6 * p) W 100 F := hF.ge (fun _ _ _ => rfl) (fun j => z2 _ _ (by omega) (by omega) (by omega) (by omega)) (fun j => z2 _ _ (by omega) (by omega) (by omega) (by omega)) (fun j => z2 _ _ (by omega) (by omega) (by omega) (by omega))
      have hlen' : (M.take l0 ++ ((F.getD i dRw).1, lv) :: M.drop l0).length = M.length + 1 := len_i9 hl0
      obtain ⟨G3, M', k1, k2, k3, k4, k5, k6, k7, k8⟩ := ih (i + 1) fu G2 _ (by omega) (by omega) (pst hp (fun b j w1 w2 w3 w4 _ => z2 b j w1 w2 w3 w4)) i3 hF2 s1 (by omega) (fun r hr z hz => by
        rcases (s2 z).mp hz with q | q
        · exact hdis r (by rw [ed]; exact List.mem_cons_of_mem _ hr) z q
        · rw [q]
          intro e
          have hp2 : rwLt (F.getD i dRw) r := by
            have hFd : (F.drop i).Pairwise rwLt := hFs.sublist (List.drop_sublist _ _)
            rw [ed] at hFd
            exact (List.pairwise_cons.mp hFd).1 r hr
          have hp3 : vLt (F.getD i dRw).1 r.1 := hp2
          have e' : (F.getD i dRw).1 = r.1 := e
          rw [e'] at hp3
          exact vLt_irr _ hp3)
      refine ⟨G3, M', st2.trans k1, fun b j w1 w2 w3 w4 w5 => by rw [k2 b j w1 w2 w3 w4 w5, z2 b j w1 w2 w3 w4], k3, k4, k5, k6, by omega, fun x => (k8 x).trans ?_⟩
      rw [s2 x, ed]
      constructor
      · rintro ((q | q) | ⟨r, r1, r2⟩)
        · exact .inl q
        · exact .inr ⟨_, List.mem_cons_self, q⟩
        · exact .inr ⟨r, List.mem_cons_of_mem _ r1, r2⟩
      · rintro (q | ⟨r, r1, r2⟩)
        · exact .inl (.inl q)
        · rcases List.mem_cons.mp r1 with e | e
          · subst e; exact .inl (.inr r2)
          · exact .inr ⟨r, e, r2⟩
end
end
section
/-! THE CLASS: takeFresh() whole -/
section
variable {f q np p rg : Nat} {S : Nat → Nat × Nat × Nat} {G : xG_} {m : Nat × Nat} {lv : Int} {r2 : Nat → Int → Int → Int → xT_ → Option (xT_)} {rgs W : Nat → Nat} {M F : Nat → List pRw}
/-- the program that is worked -/
def cWp (S : Nat → Nat × Nat × Nat) (G : xG_) (q np : Nat) (rgs : Nat → Nat) : Prop := G 93 1 = (q : Int) ∧ 226 < q ∧ S q = (1, 3, 14) ∧ S (q + 8) = (2, 3, 16) ∧ G q 1 = (np : Int) ∧ np ≤ 16 ∧ G q 10 = ((q + 8 : Nat) : Int) ∧ ∀ j, j < np → G (q + 8) j = ((rgs j : Nat) : Int)
theorem cWp.ge {G' : xG_} (h : cWp S G q np rgs) (h1 : G' 93 1 = G 93 1) (hf : ∀ a j, 226 < a → G' a j = G a j) : cWp S G' q np rgs := by
  obtain ⟨a1, a2, a3, a4, a5, a6, a7, a8⟩ := h
  exact ⟨by rw [h1]; exact a1, a2, a3, a4, by rw [hf _ _ a2]; exact a5, a6, by rw [hf _ _ a2]; exact a7, fun j hj => by rw [hf _ _ (by omega)]; exact a8 j hj⟩
theorem st_154e (hs : cSs S) (h : cWp S G q np rgs) : c154_2b r2 f 93 (rg : Int) lv (np : Int) (S, G, m) = some (S, G, m) := by
  obtain ⟨a1, a2, a3, a4, a5, a6, a7, a8⟩ := h
  unfold c154_2b
  simp (disch := omega) only [cq_gi, cq_gr, cq_a, cq_s, cq_p, cq_pr, cq_is, cq_ar, cq_ab, cq_ln, xq_nz, Option.bind_some, xup2_n, xup2_s, Int.toNat_natCast, Int.reduceToNat, if_pos, if_neg, true_and, and_true, and_self, eq_self, if_true, reduceIte, not_true_eq_false, not_false_eq_true, or_true, true_or, s93 hs, a1, a3, a5]
theorem st_154o (hs : cSs S) (h : cWp S G q np rgs) (hp : p < np) (ep : xwr ((p : Int) + 1) = ((p + 1 : Nat) : Int)) : c154_2b r2 f 93 (rg : Int) lv (p : Int) (S, G, m) = if rgs p = rg then c154_29 r2 f f 93 (rg : Int) lv (p : Int) 0 (S, G, m) else r2 93 (rg : Int) lv ((p + 1 : Nat) : Int) (S, G, m) := by
  obtain ⟨a1, a2, a3, a4, a5, a6, a7, a8⟩ := h
  have h8 := a8 p hp
  by_cases c : rgs p = rg
  · rw [if_pos c]
    rw [c] at h8
    unfold c154_2b
    simp (disch := omega) only [cq_gi, cq_gr, cq_a, cq_s, cq_p, cq_pr, cq_is, cq_ar, cq_ab, cq_ln, xq_nz, Option.bind_some, xup2_n, xup2_s, Int.toNat_natCast, Int.reduceToNat, if_pos, if_neg, true_and, and_true, and_self, eq_self, if_true, reduceIte, not_true_eq_false, not_false_eq_true, or_true, true_or, s93 hs, a1, a3, a4, a5, a7, h8]
  · rw [if_neg c]
    have c' : ¬ ((rgs p : Nat) : Int) = (rg : Int) := by omega
    unfold c154_2b c154_103
    simp (disch := omega) only [cq_gi, cq_gr, cq_a, cq_s, cq_p, cq_pr, cq_is, cq_ar, cq_ab, cq_ln, xq_nz, Option.bind_some, xup2_n, xup2_s, Int.toNat_natCast, Int.reduceToNat, if_pos, if_neg, true_and, and_true, and_self, eq_self, if_true, reduceIte, not_true_eq_false, not_false_eq_true, or_true, true_or, s93 hs, a1, a3, a4, a5, a7, h8, c', ep]
theorem k_154 (hf : 600 < f) (hs : cSs S) : ∀ (d p fu : Nat) (G : xG_), p + d = np → d < fu → cPs G → cWp S G q np rgs → (∀ j, p ≤ j → j < np → rgs j = rg → W j ≤ 4 ∧ cRw S G (108 + 6 * j) (W j) 100 (M j) ∧ cRw S G (111 + 6 * j) (W j) 100 (F j) ∧ (M j).Pairwise rwLt ∧ (F j).Pairwise rwLt ∧ (M j).length + (F j).length ≤ 100 ∧ ∀ r ∈ F j, ∀ z ∈ M j, z.1 ≠ r.1) → ∃ G', c154_2 f fu 93 (rg : Int) lv (p : Int) (S, G, m) = some (S, G', m) ∧ (∀ b j, b ≠ 103 → (∀ k, p ≤ k → k < np → rgs k = rg → ¬ (108 + 6 * k ≤ b ∧ b ≤ 113 + 6 * k)) → G' b j = G b j) ∧ cPs G' ∧ ∀ j, p ≤ j → j < np → rgs j = rg → ∃ M', cRw S G' (108 + 6 * j) (W j) 100 M' ∧ cRw S G' (111 + 6 * j) (W j) 100 [] ∧ M'.Pairwise rwLt ∧ M'.length = (M j).length + (F j).length ∧ ∀ z, z ∈ M' ↔ z ∈ M j ∨ ∃ r ∈ F j, z = (r.1, lv) := by
  intro d
  induction d with
  | zero =>
    intro p fu G e1 e2 hp hw hM
    obtain ⟨fu, rfl⟩ : ∃ t, fu = t + 1 := ⟨fu - 1, by omega⟩
    have e : p = np := by omega
    subst e
    exact ⟨G, st_154e (r2 := c154_2 f fu) hs hw, fun _ _ _ _ => rfl, hp, fun j y1 y2 => by omega⟩
  | succ d ih =>
    intro p fu G e1 e2 hp hw hM
    obtain ⟨fu, rfl⟩ : ∃ t, fu = t + 1 := ⟨fu - 1, by omega⟩
    have hnp := hw.2.2.2.2.2.1
    have hpn : p < np := by omega
    have ep : xwr ((p : Int) + 1) = ((p + 1 : Nat) : Int) := by rw [xwr_g _ (by omega) (by omega)]; omega
    have st : c154_2 f (fu + 1) 93 (rg : Int) lv (p : Int) (S, G, m) = _ := st_154o (r2 := c154_2 f fu) (rg := rg) hs hw hpn ep
    by_cases c : rgs p = rg
    · rw [if_pos c] at st
      obtain ⟨m1, m2, m3, m4, m5, m6, m7⟩ := hM p (Nat.le_refl _) hpn c
      have hF100 := m3.2.2.2.2.1
      obtain ⟨G1, M', g1, g2, g3, g4, g5, g6, g7, g8⟩ := k_154i (f := f) (m := m) (r2 := c154_2 f fu) (rg := (rg : Int)) (lv := lv) hf hs (by omega : p < 16) m1 m5 (F p).length 0 f G (M p) (by omega) (by omega) hp m2 m3 m4 m6 (by rw [List.drop_zero]; exact m7)
      rw [List.drop_zero] at g8
      have z : ∀ b j, b ≠ 103 → ¬ (108 + 6 * p ≤ b ∧ b ≤ 113 + 6 * p) → G1 b j = G b j := fun b j y1 y2 => g2 b j y1 (by omega) (by omega) (by omega) (by omega)
      obtain ⟨G2, i1, i2, i3, i4⟩ := ih (p + 1) fu G1 (by omega) (by omega) g3 (hw.ge (z _ _ (by omega) (by omega)) (fun a j y => z a j (by omega) (by omega))) (fun j y1 y2 y3 => by
        obtain ⟨n1, n2, n3, n4⟩ := hM j (by omega) y2 y3
        exact ⟨n1, n2.ge (fun _ _ _ => rfl) (fun k => z _ _ (by omega) (by omega)) (fun k => z _ _ (by omega) (by omega)) (fun k => z _ _ (by omega) (by omega)), n3.ge (fun _ _ _ => rfl) (fun k => z _ _ (by omega) (by omega)) (fun k => z _ _ (by omega) (by omega)) (fun k => z _ _ (by omega) (by omega)), n4⟩)
      have zz : ∀ b j, 108 + 6 * p ≤ b → b ≤ 113 + 6 * p → G2 b j = G1 b j := fun b j y1 y2 => i2 b j (by omega) (fun k k1 k2 k3 => by omega)
      refine ⟨G2, (st.trans g1).trans i1, fun b j y1 y2 => by rw [i2 b j y1 (fun k k1 k2 k3 => y2 k (by omega) k2 k3), z b j y1 (y2 p (Nat.le_refl _) hpn c)], i3, fun j y1 y2 y3 => ?_⟩
      by_cases cj : j = p
      · subst cj
        exact ⟨M', g4.ge (fun _ _ _ => rfl) (fun k => zz _ _ (by omega) (by omega)) (fun k => zz _ _ (by omega) (by omega)) (fun k => zz _ _ (by omega) (by omega)), g5.ge (fun _ _ _ => rfl) (fun k => zz _ _ (by omega) (by omega)) (fun k => zz _ _ (by omega) (by omega)) (fun k => zz _ _ (by omega) (by omega)), g6, g7, g8⟩
      · exact i4 j (by omega) y2 y3
    · rw [if_neg c] at st
      obtain ⟨G2, i1, i2, i3, i4⟩ := ih (p + 1) fu G (by omega) (by omega) hp hw (fun j y1 y2 y3 => hM j (by omega) y2 y3)
      refine ⟨G2, st.trans i1, fun b j y1 y2 => i2 b j y1 (fun k k1 k2 k3 => y2 k (by omega) k2 k3), i3, fun j y1 y2 y3 => ?_⟩
      by_cases cj : j = p
      · subst cj; exact absurd y3 c
      · exact i4 j (by omega) y2 y3
end
end
section
/-! THE CLASS: startRing() -/
theorem mk_pt : ∀ p : Fin 16, (108 + 6 * p.val, 2, 109 + 6 * p.val) ∈ cl_P ∧ (108 + 6 * p.val, 3, 110 + 6 * p.val) ∈ cl_P ∧ (111 + 6 * p.val, 2, 112 + 6 * p.val) ∈ cl_P ∧ (111 + 6 * p.val, 3, 113 + 6 * p.val) ∈ cl_P := by decide +kernel
section
variable {f q np p rg wd : Nat} {S : Nat → Nat × Nat × Nat} {G : xG_} {m : Nat × Nat} {r2 : Nat → Int → Int → xT_ → Option (xT_)} {rgs W : Nat → Nat}
theorem p_pt (h : cPs G) (hp : p < 16) : G (108 + 6 * p) 2 = ((109 + 6 * p : Nat) : Int) ∧ G (108 + 6 * p) 3 = ((110 + 6 * p : Nat) : Int) ∧ G (111 + 6 * p) 2 = ((112 + 6 * p : Nat) : Int) ∧ G (111 + 6 * p) 3 = ((113 + 6 * p : Nat) : Int) := ⟨h _ (mk_pt ⟨p, hp⟩).1, h _ (mk_pt ⟨p, hp⟩).2.1, h _ (mk_pt ⟨p, hp⟩).2.2.1, h _ (mk_pt ⟨p, hp⟩).2.2.2⟩
theorem st_150e (hs : cSs S) (h : cWp S G q np rgs) : c150_2b r2 f 93 (rg : Int) (np : Int) (S, G, m) = some (S, G, m) := by
  obtain ⟨a1, a2, a3, a4, a5, a6, a7, a8⟩ := h
  unfold c150_2b
  simp (disch := omega) only [cq_gi, cq_gr, cq_a, cq_s, cq_p, cq_pr, cq_is, cq_ar, cq_ab, cq_ln, xq_nz, Option.bind_some, xup2_n, xup2_s, Int.toNat_natCast, Int.reduceToNat, if_pos, if_neg, true_and, and_true, and_self, eq_self, if_true, reduceIte, not_true_eq_false, not_false_eq_true, or_true, true_or, s93 hs, a1, a3, a5]
theorem st_150n (hs : cSs S) (h : cWp S G q np rgs) (hp : p < np) (ep : xwr ((p : Int) + 1) = ((p + 1 : Nat) : Int)) (c : rgs p ≠ rg) : c150_2b r2 f 93 (rg : Int) (p : Int) (S, G, m) = r2 93 (rg : Int) ((p + 1 : Nat) : Int) (S, G, m) := by
  obtain ⟨a1, a2, a3, a4, a5, a6, a7, a8⟩ := h
  have h8 := a8 p hp
  have c' : ¬ ((rgs p : Nat) : Int) = (rg : Int) := by omega
  unfold c150_2b c150_74
  simp (disch := omega) only [cq_gi, cq_gr, cq_a, cq_s, cq_p, cq_pr, cq_is, cq_ar, cq_ab, cq_ln, xq_nz, Option.bind_some, xup2_n, xup2_s, Int.toNat_natCast, Int.reduceToNat, if_pos, if_neg, true_and, and_true, and_self, eq_self, if_true, reduceIte, not_true_eq_false, not_false_eq_true, or_true, true_or, s93 hs, a1, a3, a4, a5, a7, h8, c', ep]
theorem st_150y (hs : cSs S) (hpp : cPs G) (h : cWp S G q np rgs) (hp : p < np) (ep : xwr ((p : Int) + 1) = ((p + 1 : Nat) : Int)) (c : rgs p = rg) (hp16 : p < 16) (q2 : S (q + 2) = (2, 3, 16)) (w3 : G q 3 = ((q + 2 : Nat) : Int)) (hwd : G (q + 2) p = (wd : Int)) : c150_2b r2 f 93 (rg : Int) (p : Int) (S, G, m) = r2 93 (rg : Int) ((p + 1 : Nat) : Int) (S, xup2 (xup2 (xup2 (xup2 (xup2 G (108 + 6 * p) 0 (wd : Int)) (108 + 6 * p) 1 0) (111 + 6 * p) 0 (wd : Int)) (111 + 6 * p) 1 0) 94 p ((108 + 6 * p : Nat) : Int), m) := by
  obtain ⟨a1, a2, a3, a4, a5, a6, a7, a8⟩ := h
  have h8 := a8 p hp
  rw [c] at h8
  have x1 := (s_mk hs hp16).1
  have x2 := (s_mk hs hp16).2.2.2.1
  have m1 := (p_mk hpp hp16).1
  have m2 := (p_mk hpp hp16).2
  have es : ∀ {G : xG_}, cq_sr 94 (p : Int) (108 + 6 * p) (S, G, m) = some (S, xup2 G 94 p ((108 + 6 * p : Nat) : Int), m) := fun {G} => by
    unfold cq_sr
    rw [if_pos]
    · rfl
    · show (S 94).1 = 2 ∧ 5 ≤ (S 94).2.1 ∧ 0 ≤ (p : Int) ∧ (p : Int) < ((S 94).2.2 : Nat) ∧ (108 + 6 * p = 0 ∨ (S (108 + 6 * p)).1 = 1 ∧ (S 94).2.1 = (S (108 + 6 * p)).2.1 + 5)
      rw [s94 hs, x1]
      exact ⟨rfl, by decide, by omega, by show (p : Int) < 16; omega, .inr ⟨rfl, rfl⟩⟩
  unfold c150_2b c150_74
  simp (disch := omega) only [cq_gi, cq_gr, cq_a, cq_s, cq_p, cq_pr, cq_is, cq_ar, cq_ab, cq_ln, xq_nz, Option.bind_some, xup2_n, xup2_s, Int.toNat_natCast, Int.reduceToNat, if_pos, if_neg, true_and, and_true, and_self, eq_self, if_true, reduceIte, not_true_eq_false, not_false_eq_true, or_true, true_or, s93 hs, s96 hs, s97 hs, p93_2 hpp, p93_4 hpp, p93_5 hpp, a1, a3, a4, a5, a7, h8, x1, x2, m1, m2, q2, w3, hwd, k_69 x1, k_69 x2, es, ep]
/-- startRing(): nothing is made yet -/
theorem k_150 (hs : cSs S) (q2 : S (q + 2) = (2, 3, 16)) : ∀ (d p fu : Nat) (G : xG_), p + d = np → d < fu → cPs G → cWp S G q np rgs → G q 3 = ((q + 2 : Nat) : Int) → (∀ j, j < np → G (q + 2) j = ((W j : Nat) : Int) ∧ W j ≤ 4) → ∃ G', c150_2 f fu 93 (rg : Int) (p : Int) (S, G, m) = some (S, G', m) ∧ (∀ b j, (∀ k, p ≤ k → k < np → rgs k = rg → ¬ (b = 94 ∧ j = k) ∧ ¬ (b = 108 + 6 * k ∧ j ≤ 1) ∧ ¬ (b = 111 + 6 * k ∧ j ≤ 1)) → G' b j = G b j) ∧ cPs G' ∧ ∀ j, p ≤ j → j < np → rgs j = rg → G' 94 j = ((108 + 6 * j : Nat) : Int) ∧ cRw S G' (108 + 6 * j) (W j) 100 [] ∧ cRw S G' (111 + 6 * j) (W j) 100 [] := by
  intro d
  induction d with
  | zero =>
    intro p fu G e1 e2 hp hw h3 hW
    obtain ⟨fu, rfl⟩ : ∃ t, fu = t + 1 := ⟨fu - 1, by omega⟩
    have e : p = np := by omega
    subst e
    exact ⟨G, st_150e (r2 := c150_2 f fu) hs hw, fun _ _ _ => rfl, hp, fun j y1 y2 => by omega⟩
  | succ d ih =>
    intro p fu G e1 e2 hp hw h3 hW
    obtain ⟨fu, rfl⟩ : ∃ t, fu = t + 1 := ⟨fu - 1, by omega⟩
    have hnp := hw.2.2.2.2.2.1
    have hq := hw.2.1
    have hpn : p < np := by omega
    have ep : xwr ((p : Int) + 1) = ((p + 1 : Nat) : Int) := by rw [xwr_g _ (by omega) (by omega)]; omega
    by_cases c : rgs p = rg
    · have st : c150_2 f (fu + 1) 93 (rg : Int) (p : Int) (S, G, m) = _ := st_150y (r2 := c150_2 f fu) (rg := rg) hs hp hw hpn ep c (by omega) q2 h3 (hW p hpn).1
      obtain ⟨G1, hG1⟩ : ∃ G1, G1 = xup2 (xup2 (xup2 (xup2 (xup2 G (108 + 6 * p) 0 ((W p : Nat) : Int)) (108 + 6 * p) 1 0) (111 + 6 * p) 0 ((W p : Nat) : Int)) (111 + 6 * p) 1 0) 94 p ((108 + 6 * p : Nat) : Int) := ⟨_, rfl⟩
      rw [← hG1] at st
      have z : ∀ b j, ¬ (b = 94 ∧ j = p) → ¬ (b = 108 + 6 * p ∧ j ≤ 1) → ¬ (b = 111 + 6 * p ∧ j ≤ 1) → G1 b j = G b j := fun b j y1 y2 y3 => by rw [hG1, xup2_n (by omega), xup2_n (by omega), xup2_n (by omega), xup2_n (by omega), xup2_n (by omega)]
      have hp1 : cPs G1 := hp.ge (fun b j hz => by
        have : ¬ (b = 94 ∧ j = p) ∧ ¬ (b = 108 + 6 * p ∧ j ≤ 1) ∧ ¬ (b = 111 + 6 * p ∧ j ≤ 1) := by
          rcases hz with z | z | z | z | z | z | z | ⟨z, z1, z2, k, z3⟩ | z | z | z | ⟨k, z1, z2, z3⟩ <;> omega
        exact z b j this.1 this.2.1 this.2.2)
      obtain ⟨G2, i1, i2, i3, i4⟩ := ih (p + 1) fu G1 (by omega) (by omega) hp1 (hw.ge (z _ _ (by omega) (by omega) (by omega)) (fun a j y => z a j (by omega) (by omega) (by omega))) (by rw [z _ _ (by omega) (by omega) (by omega)]; exact h3) (fun j hj => by rw [z _ _ (by omega) (by omega) (by omega)]; exact hW j hj)
      have zz : ∀ b j, 108 + 6 * p ≤ b → b ≤ 113 + 6 * p → G2 b j = G1 b j := fun b j y1 y2 => i2 b j (fun k k1 k2 k3 => by omega)
      refine ⟨G2, st.trans i1, fun b j y => by rw [i2 b j (fun k k1 k2 k3 => y k (by omega) k2 k3), z b j (y p (Nat.le_refl _) hpn c).1 (y p (Nat.le_refl _) hpn c).2.1 (y p (Nat.le_refl _) hpn c).2.2], i3, fun j y1 y2 y3 => ?_⟩
      by_cases cj : j = p
      · subst cj
        obtain ⟨s1, s2, s3, s4, s5, s6⟩ := s_mk (p := j) hs (by omega)
        obtain ⟨t1, t2, t3, t4⟩ := p_pt (p := j) i3 (by omega)
        have w4 := (hW j y2).2
        refine ⟨?_, ⟨s1, ⟨400, by rw [show 108 + 6 * j + 1 = 109 + 6 * j by omega]; exact s2, by omega, by decide⟩, by rw [show 108 + 6 * j + 2 = 110 + 6 * j by omega]; exact s3, ⟨?_, ?_, by rw [t1]; omega, by rw [t2]; omega⟩, Nat.zero_le _, by decide, by omega, fun i hi => absurd hi (Nat.not_lt_zero i)⟩, ⟨s4, ⟨400, by rw [show 111 + 6 * j + 1 = 112 + 6 * j by omega]; exact s5, by omega, by decide⟩, by rw [show 111 + 6 * j + 2 = 113 + 6 * j by omega]; exact s6, ⟨?_, ?_, by rw [t3]; omega, by rw [t4]; omega⟩, Nat.zero_le _, by decide, by omega, fun i hi => absurd hi (Nat.not_lt_zero i)⟩⟩
        · rw [i2 94 j (fun k k1 k2 k3 => by omega), hG1, xup2_s]
        · rw [zz _ _ (by omega) (by omega), hG1, xup2_n (by omega), xup2_n (by omega), xup2_n (by omega), xup2_n (by omega), xup2_s]
        · rw [zz _ _ (by omega) (by omega), hG1, xup2_n (by omega), xup2_n (by omega), xup2_n (by omega), xup2_s]; rfl
        · rw [zz _ _ (by omega) (by omega), hG1, xup2_n (by omega), xup2_n (by omega), xup2_s]
        · rw [zz _ _ (by omega) (by omega), hG1, xup2_n (by omega), xup2_s]; rfl
      · exact i4 j (by omega) y2 y3
    · have st : c150_2 f (fu + 1) 93 (rg : Int) (p : Int) (S, G, m) = _ := st_150n (r2 := c150_2 f fu) hs hw hpn ep c
      obtain ⟨G2, i1, i2, i3, i4⟩ := ih (p + 1) fu G (by omega) (by omega) hp hw h3 hW
      refine ⟨G2, st.trans i1, fun b j y => i2 b j (fun k k1 k2 k3 => y k (by omega) k2 k3), i3, fun j y1 y2 y3 => ?_⟩
      by_cases cj : j = p
      · subst cj; exact absurd y3 c
      · exact i4 j (by omega) y2 y3
end
end
section
/-! THE CLASS: isOwn(), leadersOf() -/
/-- an ATOM of the RING -/
def ownL (Ls : List pLt) (mb l : Nat) : Prop := (Ls.getD l dLt).1 = 1 ∧ mb.testBit (Ls.getD l dLt).2.1.toNat = true
section
variable {f u l mb p nl ow : Nat} {S : Nat → Nat × Nat × Nat} {G : xG_} {m : Nat × Nat} {K : pCd} {Ls : List pLt} {kd lv v : Int} {r6 : Nat → Int → Int → Int → Int → xT_ → Option (Int × xT_)}
theorem st_152n (us : S u = (1, 6, 20)) (us2 : S (u + 2) = (2, 3, 8)) (w9 : G u 9 = ((u + 2 : Nat) : Int)) (hl : l < 8) (hk : G (u + 2) l = kd) (hkd : kd ≠ 15) : c152 f u (l : Int) v (S, G, m) = some (0, (S, G, m)) := by
  unfold c152 c152_29 c152_30
  simp (disch := omega) only [cq_gi, cq_gr, cq_a, cq_s, cq_p, cq_pr, cq_is, cq_ar, cq_ab, cq_ln, xq_nz, Option.bind_some, xup2_n, xup2_s, Int.toNat_natCast, Int.reduceToNat, if_pos, if_neg, true_and, and_true, and_self, eq_self, if_true, reduceIte, not_true_eq_false, not_false_eq_true, or_true, true_or, us, us2, w9, hk, hkd]
theorem st_152y (us : S u = (1, 6, 20)) (us2 : S (u + 2) = (2, 3, 8)) (us3 : S (u + 3) = (2, 3, 8)) (w9 : G u 9 = ((u + 2 : Nat) : Int)) (w10 : G u 10 = ((u + 3 : Nat) : Int)) (hl : l < 8) (hk : G (u + 2) l = 15) (hp : G (u + 3) l = (p : Int)) (hp16 : p < 16) (hmb : mb < 2 ^ 16) : c152 f u (l : Int) (mb : Int) (S, G, m) = some (if mb.testBit p = true then 1 else 0, (S, G, m)) := by
  by_cases q : mb.testBit p = true
  · rw [if_pos q]
    have eb : xand (xshr (mb : Int) (p : Int)) 1 = 1 := (xbit (by omega) (by omega)).mpr q
    unfold c152 c152_30
    simp (disch := omega) only [cq_gi, cq_gr, cq_a, cq_s, cq_p, cq_pr, cq_is, cq_ar, cq_ab, cq_ln, xq_nz, Option.bind_some, xup2_n, xup2_s, Int.toNat_natCast, Int.reduceToNat, if_pos, if_neg, true_and, and_true, and_self, eq_self, if_true, reduceIte, not_true_eq_false, not_false_eq_true, or_true, true_or, us, us2, us3, w9, w10, hk, hp, eb, Int.reduceEq]
  · rw [if_neg q]
    have eb : ¬ xand (xshr (mb : Int) (p : Int)) 1 = 1 := fun y => q ((xbit (by omega) (by omega)).mp y)
    unfold c152 c152_29 c152_30
    simp (disch := omega) only [cq_gi, cq_gr, cq_a, cq_s, cq_p, cq_pr, cq_is, cq_ar, cq_ab, cq_ln, xq_nz, Option.bind_some, xup2_n, xup2_s, Int.toNat_natCast, Int.reduceToNat, if_pos, if_neg, true_and, and_true, and_self, eq_self, if_true, reduceIte, not_true_eq_false, not_false_eq_true, or_true, true_or, us, us2, us3, w9, w10, hk, hp, eb]
theorem k_152 (hR : cRq S G u K Ls) (hl : l < Ls.length) (hmb : mb < 2 ^ 16) (hw : (Ls.getD l dLt).1 = 1 → 0 ≤ (Ls.getD l dLt).2.1 ∧ (Ls.getD l dLt).2.1 < 16) : ∃ w : Int, c152 f u (l : Int) (mb : Int) (S, G, m) = some (w, (S, G, m)) ∧ (w = 0 ∨ w = 1) ∧ (w = 1 ↔ ownL Ls mb l) := by
  obtain ⟨⟨us, us1, us2, us3, _⟩, ⟨w7, w9, w10, _⟩, _, hls, hu, _⟩ := hR
  have hl8 := hls.2.1
  unfold ownL
  rcases hls.2.2 l hl with ⟨z1, z2, z3, _⟩ | ⟨z1, z2, z3, _⟩
  · have z1' : (Ls.getD l dLt).1 = 1 ∨ (Ls.getD l dLt).1 = 2 := z1
    have z2' : G (u + 2) l = (if (Ls.getD l dLt).1 = 1 then 15 else 9) := z2
    have z3' : G (u + 3) l = (Ls.getD l dLt).2.1 := z3
    by_cases c : (Ls.getD l dLt).1 = 1
    · rw [if_pos c] at z2'
      obtain ⟨h0, h16⟩ := hw c
      obtain ⟨p, hp⟩ : ∃ p : Nat, (Ls.getD l dLt).2.1 = (p : Int) := ⟨(Ls.getD l dLt).2.1.toNat, by omega⟩
      rw [hp] at z3'
      have e := st_152y (f := f) (m := m) us us2 us3 w9 w10 (by omega) z2' z3' (by omega) hmb
      rw [hp, Int.toNat_natCast]
      by_cases q : mb.testBit p = true
      · rw [if_pos q] at e
        exact ⟨1, e, .inr rfl, fun _ => ⟨c, q⟩, fun _ => rfl⟩
      · rw [if_neg q] at e
        exact ⟨0, e, .inl rfl, fun y => by omega, fun y => absurd y.2 q⟩
    · rw [if_neg c] at z2'
      exact ⟨0, st_152n us us2 w9 (by omega) z2' (by decide), .inl rfl, fun y => by omega, fun y => absurd y.1 c⟩
  · have z1' : (Ls.getD l dLt).1 = 3 := z1
    have z2' : G (u + 2) l = (Ls.getD l dLt).2.1 := z2
    have z3' : (Ls.getD l dLt).2.1 = 61 ∨ (Ls.getD l dLt).2.1 = 257 ∨ (Ls.getD l dLt).2.1 = 60 ∨ (Ls.getD l dLt).2.1 = 258 ∨ (Ls.getD l dLt).2.1 = 62 ∨ (Ls.getD l dLt).2.1 = 259 := z3
    exact ⟨0, st_152n us us2 w9 (by omega) z2' (by omega), .inl rfl, fun y => by omega, fun y => by omega⟩
theorem st_151z (us : S u = (1, 6, 20)) (h8 : G u 8 = (nl : Int)) : c151_6b r6 f u v lv (ow : Int) (nl : Int) (S, G, m) = some (if ow = 0 then (if lv = 1 then 1 else 0) else (if lv = 1 then 0 else (ow : Int)), (S, G, m)) := by
  by_cases c : ow = 0
  · rw [if_pos c, c]
    by_cases d : lv = 1
    · rw [if_pos d]
      unfold c151_6b c151_59
      simp (disch := omega) only [cq_gi, cq_gr, cq_a, cq_s, cq_p, cq_pr, cq_is, cq_ar, cq_ab, cq_ln, xq_nz, Option.bind_some, xup2_n, xup2_s, Int.toNat_natCast, Int.reduceToNat, if_pos, if_neg, true_and, and_true, and_self, eq_self, if_true, reduceIte, not_true_eq_false, not_false_eq_true, or_true, true_or, us, h8, d, Int.ofNat_zero]
    · rw [if_neg d]
      unfold c151_6b c151_59
      simp (disch := omega) only [cq_gi, cq_gr, cq_a, cq_s, cq_p, cq_pr, cq_is, cq_ar, cq_ab, cq_ln, xq_nz, Option.bind_some, xup2_n, xup2_s, Int.toNat_natCast, Int.reduceToNat, if_pos, if_neg, true_and, and_true, and_self, eq_self, if_true, reduceIte, not_true_eq_false, not_false_eq_true, or_true, true_or, us, h8, d, Int.ofNat_zero]
  · have c' : ¬ (ow : Int) = 0 := by omega
    rw [if_neg c]
    by_cases d : lv = 1
    · rw [if_pos d]
      unfold c151_6b c151_71
      simp (disch := omega) only [cq_gi, cq_gr, cq_a, cq_s, cq_p, cq_pr, cq_is, cq_ar, cq_ab, cq_ln, xq_nz, Option.bind_some, xup2_n, xup2_s, Int.toNat_natCast, Int.reduceToNat, if_pos, if_neg, true_and, and_true, and_self, eq_self, if_true, reduceIte, not_true_eq_false, not_false_eq_true, or_true, true_or, us, h8, d, c']
    · rw [if_neg d]
      unfold c151_6b c151_71
      simp (disch := omega) only [cq_gi, cq_gr, cq_a, cq_s, cq_p, cq_pr, cq_is, cq_ar, cq_ab, cq_ln, xq_nz, Option.bind_some, xup2_n, xup2_s, Int.toNat_natCast, Int.reduceToNat, if_pos, if_neg, true_and, and_true, and_self, eq_self, if_true, reduceIte, not_true_eq_false, not_false_eq_true, or_true, true_or, us, h8, d, c']
theorem st_151s {w : Int} (us : S u = (1, 6, 20)) (h8 : G u 8 = (nl : Int)) (hl : l < nl) (hl8 : nl ≤ 8) (e : c152 f u (l : Int) v (S, G, m) = some (w, (S, G, m))) (how : ow < 2 ^ 8) (ei : xwr ((l : Int) + 1) = ((l + 1 : Nat) : Int)) : c151_6b r6 f u v lv (ow : Int) (l : Int) (S, G, m) = r6 u v lv ((if w = 0 then ow else ow ||| 2 ^ l : Nat) : Int) ((l + 1 : Nat) : Int) (S, G, m) := by
  by_cases c : w = 0
  · rw [if_pos c]
    have eo : xor_ (ow : Int) 0 = (ow : Int) := by
      have := xor_nat (a := ow) (b := 0) (by omega) (by decide)
      rw [Nat.or_zero] at this
      exact this
    unfold c151_6b c151_35
    simp (disch := omega) only [cq_gi, cq_gr, cq_a, cq_s, cq_p, cq_pr, cq_is, cq_ar, cq_ab, cq_ln, xq_nz, Option.bind_some, xup2_n, xup2_s, Int.toNat_natCast, Int.reduceToNat, if_pos, if_neg, true_and, and_true, and_self, eq_self, if_true, reduceIte, not_true_eq_false, not_false_eq_true, or_true, true_or, us, h8, e, c, eo, ei]
  · rw [if_neg c]
    have eo : xor_ (ow : Int) (xshl 1 (l : Int)) = ((ow ||| 2 ^ l : Nat) : Int) := xorb (by omega) (by omega)
    unfold c151_6b c151_35
    simp (disch := omega) only [cq_gi, cq_gr, cq_a, cq_s, cq_p, cq_pr, cq_is, cq_ar, cq_ab, cq_ln, xq_nz, Option.bind_some, xup2_n, xup2_s, Int.toNat_natCast, Int.reduceToNat, if_pos, if_neg, true_and, and_true, and_self, eq_self, if_true, reduceIte, not_true_eq_false, not_false_eq_true, or_true, true_or, us, h8, e, c, eo, ei]
/-- leadersOf() -/
theorem k_151o (hf : 20 < f) (hR : cRq S G u K Ls) (hmb : mb < 2 ^ 16) (hw : ∀ l, l < Ls.length → (Ls.getD l dLt).1 = 1 → 0 ≤ (Ls.getD l dLt).2.1 ∧ (Ls.getD l dLt).2.1 < 16) : ∃ ow : Nat, ow < 2 ^ 8 ∧ (∀ l, ow.testBit l = true ↔ l < Ls.length ∧ ownL Ls mb l) ∧ c151 f 93 u (mb : Int) lv (S, G, m) = some (if ow = 0 then (if lv = 1 then 1 else 0) else (if lv = 1 then 0 else (ow : Int)), (S, G, m)) := by
  have us := hR.1.1
  have h8 := hR.2.2.2.1.1
  have hl8 := hR.2.2.2.1.2.1
  have loop : ∀ (d l fu ow : Nat), l + d = Ls.length → d < fu → ow < 2 ^ 8 → (∀ j, ow.testBit j = true ↔ j < l ∧ ownL Ls mb j) → ∃ ow' : Nat, ow' < 2 ^ 8 ∧ (∀ j, ow'.testBit j = true ↔ j < Ls.length ∧ ownL Ls mb j) ∧ c151_6 f fu u (mb : Int) lv (ow : Int) (l : Int) (S, G, m) = some (if ow' = 0 then (if lv = 1 then 1 else 0) else (if lv = 1 then 0 else (ow' : Int)), (S, G, m)) := by
    intro d
    induction d with
    | zero =>
      intro l fu ow e1 e2 e3 e4
      obtain ⟨fu, rfl⟩ : ∃ t, fu = t + 1 := ⟨fu - 1, by omega⟩
      have e : l = Ls.length := by omega
      subst e
      exact ⟨ow, e3, e4, st_151z (r6 := c151_6 f fu) us h8⟩
    | succ d ih =>
      intro l fu ow e1 e2 e3 e4
      obtain ⟨fu, rfl⟩ : ∃ t, fu = t + 1 := ⟨fu - 1, by omega⟩
      obtain ⟨w, w1, w2, w3⟩ := k_152 (f := f) (m := m) (l := l) hR (by omega) hmb (hw l (by omega))
      have st : c151_6 f (fu + 1) u (mb : Int) lv (ow : Int) (l : Int) (S, G, m) = _ := st_151s (r6 := c151_6 f fu) us h8 (by omega) hl8 w1 e3 (by rw [xwr_g _ (by omega) (by omega)]; omega)
      rw [st]
      refine ih (l + 1) fu _ (by omega) (by omega) ?_ (fun j => ?_)
      · split
        · exact e3
        · exact or_lt e3 (by omega)
      · by_cases c : w = 0
        · rw [if_pos c, e4 j]
          constructor
          · exact fun ⟨q1, q2⟩ => ⟨by omega, q2⟩
          · rintro ⟨q1, q2⟩
            by_cases cj : j = l
            · subst cj; have := w3.mpr q2; omega
            · exact ⟨by omega, q2⟩
        · rw [if_neg c, Nat.testBit_or, Bool.or_eq_true, e4 j, Nat.testBit_two_pow]
          constructor
          · rintro (⟨q1, q2⟩ | q)
            · exact ⟨by omega, q2⟩
            · have := of_decide_eq_true q
              subst this
              exact ⟨by omega, w3.mp (by omega)⟩
          · rintro ⟨q1, q2⟩
            by_cases cj : j = l
            · subst cj; exact .inr (decide_eq_true rfl)
            · exact .inl ⟨by omega, q2⟩
  exact loop Ls.length 0 f 0 (by omega) (by omega) (by decide) (fun j => ⟨fun q => (by rw [Nat.zero_testBit] at q; cases q), fun q => (by omega)⟩)
end
end
section
/-! THE CLASS: openLevel() -/
/-- bounds of a LITERAL's RANKS at a level -/
def lvLo (Ls : List pLt) (mb : Nat) (lv : Int) (ld l : Nat) : Int := if (Ls.getD l dLt).1 = 1 ∧ mb.testBit (Ls.getD l dLt).2.1.toNat = true ∧ l = ld then lv - 1 else 0
def lvHi (Ls : List pLt) (mb : Nat) (lv : Int) (ld l : Nat) : Int := if (Ls.getD l dLt).1 = 1 ∧ mb.testBit (Ls.getD l dLt).2.1.toNat = true then (if l < ld then lv - 2 else lv - 1) else 1700
section
variable {f u l mb nl ld fa : Nat} {S : Nat → Nat × Nat × Nat} {G : xG_} {m : Nat × Nat} {K : pCd} {Ls : List pLt} {lv v w : Int} {r16 : Nat → Nat → Int → Int → Int → Int → xT_ → Option (xT_)}
theorem st_153z (us : S u = (1, 6, 20)) (h8 : G u 8 = (nl : Int)) : c153_16b r16 f 93 u v lv (ld : Int) (nl : Int) (S, G, m) = some (S, G, m) := by
  unfold c153_16b
  simp (disch := omega) only [cq_gi, cq_gr, cq_a, cq_s, cq_p, cq_pr, cq_is, cq_ar, cq_ab, cq_ln, xq_nz, Option.bind_some, xup2_n, xup2_s, Int.toNat_natCast, Int.reduceToNat, if_pos, if_neg, true_and, and_true, and_self, eq_self, if_true, reduceIte, not_true_eq_false, not_false_eq_true, or_true, true_or, us, h8]
theorem st_153n (us : S u = (1, 6, 20)) (h8 : G u 8 = (nl : Int)) (hl : l < nl) (e : c152 f u (l : Int) v (S, G, m) = some (0, (S, G, m))) (ei : xwr ((l : Int) + 1) = ((l + 1 : Nat) : Int)) : c153_16b r16 f 93 u v lv (ld : Int) (l : Int) (S, G, m) = r16 93 u v lv (ld : Int) ((l + 1 : Nat) : Int) (S, G, m) := by
  unfold c153_16b c153_85
  simp (disch := omega) only [cq_gi, cq_gr, cq_a, cq_s, cq_p, cq_pr, cq_is, cq_ar, cq_ab, cq_ln, xq_nz, Option.bind_some, xup2_n, xup2_s, Int.toNat_natCast, Int.reduceToNat, if_pos, if_neg, true_and, and_true, and_self, eq_self, if_true, reduceIte, not_true_eq_false, not_false_eq_true, or_true, true_or, us, h8, e, ei]
theorem st_153y (hs : cSs S) (hp : cPs G) (us : S u = (1, 6, 20)) (h8 : G u 8 = (nl : Int)) (hl : l < nl) (hn : nl ≤ 8) (e : c152 f u (l : Int) v (S, G, m) = some (1, (S, G, m))) (ei : xwr ((l : Int) + 1) = ((l + 1 : Nat) : Int)) (e1 : xwr (lv - 1) = lv - 1) (e2 : xwr (lv - 2) = lv - 2) : c153_16b r16 f 93 u v lv (ld : Int) (l : Int) (S, G, m) = r16 93 u v lv (ld : Int) ((l + 1 : Nat) : Int) (S, xup2 (xup2 G 85 l (if l = ld then lv - 1 else 0)) 86 l (if l < ld then lv - 2 else lv - 1), m) := by
  by_cases c1 : l = ld
  · subst c1
    rw [if_pos rfl, if_neg (Nat.lt_irrefl l)]
    unfold c153_16b c153_58 c153_84 c153_85
    simp (disch := omega) only [cq_gi, cq_gr, cq_a, cq_s, cq_p, cq_pr, cq_is, cq_ar, cq_ab, cq_ln, xq_nz, Option.bind_some, xup2_n, xup2_s, Int.toNat_natCast, Int.reduceToNat, if_pos, if_neg, true_and, and_true, and_self, eq_self, if_true, reduceIte, not_true_eq_false, not_false_eq_true, or_true, true_or, us, h8, e, ei, e1, e2, s93 hs, s83 hs, s85 hs, s86 hs, p93_0 hp, p83_1 hp, p83_2 hp]
  · have c1' : ¬ (l : Int) = (ld : Int) := by omega
    rw [if_neg c1]
    by_cases c2 : l < ld
    · rw [if_pos c2]
      unfold c153_16b c153_58 c153_84 c153_85
      simp (disch := omega) only [cq_gi, cq_gr, cq_a, cq_s, cq_p, cq_pr, cq_is, cq_ar, cq_ab, cq_ln, xq_nz, Option.bind_some, xup2_n, xup2_s, Int.toNat_natCast, Int.reduceToNat, if_pos, if_neg, true_and, and_true, and_self, eq_self, if_true, reduceIte, not_true_eq_false, not_false_eq_true, or_true, true_or, us, h8, e, ei, e1, e2, c1', s93 hs, s83 hs, s85 hs, s86 hs, p93_0 hp, p83_1 hp, p83_2 hp]
    · rw [if_neg c2]
      unfold c153_16b c153_58 c153_84 c153_85
      simp (disch := omega) only [cq_gi, cq_gr, cq_a, cq_s, cq_p, cq_pr, cq_is, cq_ar, cq_ab, cq_ln, xq_nz, Option.bind_some, xup2_n, xup2_s, Int.toNat_natCast, Int.reduceToNat, if_pos, if_neg, true_and, and_true, and_self, eq_self, if_true, reduceIte, not_true_eq_false, not_false_eq_true, or_true, true_or, us, h8, e, ei, e1, e2, c1', s93 hs, s83 hs, s85 hs, s86 hs, p93_0 hp, p83_1 hp, p83_2 hp]
theorem k_153l (hs : cSs S) (hmb : mb < 2 ^ 16) (hw : ∀ l, l < Ls.length → (Ls.getD l dLt).1 = 1 → 0 ≤ (Ls.getD l dLt).2.1 ∧ (Ls.getD l dLt).2.1 < 16) (hlv : 0 ≤ lv ∧ lv ≤ 2000) : ∀ (d l fu : Nat) (G : xG_), l + d = Ls.length → d < fu → cPs G → cRq S G u K Ls → (∀ j, j < 8 → G 85 j = (if j < l then lvLo Ls mb lv ld j else 0) ∧ G 86 j = (if j < l then lvHi Ls mb lv ld j else 1700)) → ∃ G', c153_16 f fu 93 u (mb : Int) lv (ld : Int) (l : Int) (S, G, m) = some (S, G', m) ∧ (∀ a j, a ≠ 85 → a ≠ 86 → G' a j = G a j) ∧ cPs G' ∧ ∀ j, j < 8 → G' 85 j = (if j < Ls.length then lvLo Ls mb lv ld j else 0) ∧ G' 86 j = (if j < Ls.length then lvHi Ls mb lv ld j else 1700) := by
  intro d
  induction d with
  | zero =>
    intro l fu G e1 e2 hp hR h
    obtain ⟨fu, rfl⟩ : ∃ t, fu = t + 1 := ⟨fu - 1, by omega⟩
    have e : l = Ls.length := by omega
    subst e
    exact ⟨G, st_153z (r16 := c153_16 f fu) hR.1.1 hR.2.2.2.1.1, fun _ _ _ _ => rfl, hp, h⟩
  | succ d ih =>
    intro l fu G e1 e2 hp hR h
    obtain ⟨fu, rfl⟩ : ∃ t, fu = t + 1 := ⟨fu - 1, by omega⟩
    have us := hR.1.1
    have h8 := hR.2.2.2.1.1
    have hl8 := hR.2.2.2.1.2.1
    have hu := hR.2.2.2.2.1
    obtain ⟨w, w1, w2, w3⟩ := k_152 (f := f) (m := m) (l := l) hR (by omega) hmb (hw l (by omega))
    have ei : xwr ((l : Int) + 1) = ((l + 1 : Nat) : Int) := by rw [xwr_g _ (by omega) (by omega)]; omega
    by_cases c : w = 0
    · have st : c153_16 f (fu + 1) 93 u (mb : Int) lv (ld : Int) (l : Int) (S, G, m) = _ := st_153n (r16 := c153_16 f fu) us h8 (by omega) (c ▸ w1) ei
      rw [st]
      refine ih (l + 1) fu G (by omega) (by omega) hp hR (fun j hj => ?_)
      obtain ⟨y1, y2⟩ := h j hj
      by_cases cj : j = l
      · subst cj
        rw [if_neg (Nat.lt_irrefl _)] at y1 y2
        rw [if_pos (by omega), if_pos (by omega), y1, y2]
        have hn : ¬ ownL Ls mb j := fun y => by have := w3.mpr y; omega
        unfold lvLo lvHi
        rw [if_neg (fun y => hn ⟨y.1, y.2.1⟩), if_neg (fun y => hn ⟨y.1, y.2⟩)]
        exact ⟨rfl, rfl⟩
      · rw [y1, y2]
        by_cases cl : j < l
        · rw [if_pos cl, if_pos cl, if_pos (by omega), if_pos (by omega)]; exact ⟨rfl, rfl⟩
        · rw [if_neg cl, if_neg cl, if_neg (by omega), if_neg (by omega)]; exact ⟨rfl, rfl⟩
    · have c1 : w = 1 := by omega
      have st : c153_16 f (fu + 1) 93 u (mb : Int) lv (ld : Int) (l : Int) (S, G, m) = _ := st_153y (r16 := c153_16 f fu) hs hp us h8 (by omega) hl8 (c1 ▸ w1) ei (by rw [xwr_g _ (by omega) (by omega)]) (by rw [xwr_g _ (by omega) (by omega)])
      obtain ⟨G1, hG1⟩ : ∃ G1, G1 = xup2 (xup2 G 85 l (if l = ld then lv - 1 else 0)) 86 l (if l < ld then lv - 2 else lv - 1) := ⟨_, rfl⟩
      rw [← hG1] at st
      have z : ∀ a j, a ≠ 85 → a ≠ 86 → G1 a j = G a j := fun a j y1 y2 => by rw [hG1, xup2_n (by omega), xup2_n (by omega)]
      have hp1 : cPs G1 := hp.ge (fun b j hz => by
        have : b ≠ 85 ∧ b ≠ 86 := by
          rcases hz with z | z | z | z | z | z | z | ⟨z, z1, z2, k, z3⟩ | z | z | z | ⟨k, z1, z2, z3⟩ <;> omega
        exact z b j this.1 this.2)
      have hown : ownL Ls mb l := w3.mp c1
      obtain ⟨G2, i1, i2, i3, i4⟩ := ih (l + 1) fu G1 (by omega) (by omega) hp1 (hR.fx (fun a j y => z a j (by omega) (by omega))) (fun j hj => by
        obtain ⟨y1, y2⟩ := h j hj
        by_cases cj : j = l
        · subst cj
          rw [if_pos (by omega), if_pos (by omega), hG1, xup2_n (by omega), xup2_s, xup2_s]
          unfold lvLo lvHi
          rw [if_pos (show (Ls.getD j dLt).1 = 1 ∧ mb.testBit (Ls.getD j dLt).2.1.toNat = true from hown)]
          refine ⟨?_, rfl⟩
          by_cases c3 : j = ld
          · rw [if_pos c3, if_pos ⟨hown.1, hown.2, c3⟩]
          · rw [if_neg c3, if_neg (fun y => c3 y.2.2)]
        · have e1 : G1 85 j = G 85 j := by rw [hG1, xup2_n (by omega), xup2_n (by omega)]
          have e2 : G1 86 j = G 86 j := by rw [hG1, xup2_n (by omega), xup2_n (by omega)]
          rw [e1, e2, y1, y2]
          by_cases cl : j < l
          · rw [if_pos cl, if_pos cl, if_pos (by omega), if_pos (by omega)]; exact ⟨rfl, rfl⟩
          · rw [if_neg cl, if_neg cl, if_neg (by omega), if_neg (by omega)]; exact ⟨rfl, rfl⟩)
      exact ⟨G2, st.trans i1, fun a j y1 y2 => (i2 a j y1 y2).trans (z a j y1 y2), i3, i4⟩
theorem st_153 (hs : cSs S) (hp : cPs G) {G1 : xG_} (e : c130 f 83 u 94 1 (S, G, m) = some (S, G1, m)) : c153 f 93 u v lv (ld : Int) (S, G, m) = c153_16 f f 93 u v lv (ld : Int) 0 (S, G1, m) := by
  unfold c153
  simp (disch := omega) only [cq_gi, cq_gr, cq_a, cq_s, cq_p, cq_pr, cq_is, cq_ar, cq_ab, cq_ln, xq_nz, Option.bind_some, xup2_n, xup2_s, Int.toNat_natCast, Int.reduceToNat, if_pos, if_neg, true_and, and_true, and_self, eq_self, if_true, reduceIte, not_true_eq_false, not_false_eq_true, or_true, true_or, s93 hs, s83 hs, p93_0 hp, p93_2 hp, e]
/-- openLevel() -/
theorem k_153 (hf : 20 < f) (hs : cSs S) (hp : cPs G) (hR : cRq S G u K Ls) (hmb : mb < 2 ^ 16) (hw : ∀ l, l < Ls.length → (Ls.getD l dLt).1 = 1 → 0 ≤ (Ls.getD l dLt).2.1 ∧ (Ls.getD l dLt).2.1 < 16) (hlv : 0 ≤ lv ∧ lv ≤ 2000) : ∃ G', c153 f 93 u (mb : Int) lv (ld : Int) (S, G, m) = some (S, G', m) ∧ (∀ a j, ¬ (a = 83 ∧ 3 ≤ j ∧ j ≤ 7) → a ≠ 85 → a ≠ 86 → ¬ (a = 87 ∧ j = 0) → G' a j = G a j) ∧ cPs G' ∧ G' 83 3 = (u : Int) ∧ G' 83 4 = 94 ∧ G' 83 5 = 1 ∧ G' 83 6 = 0 ∧ G' 83 7 = 1 ∧ G' 87 0 = 0 ∧ ∀ l, l < 8 → G' 85 l = lvLo Ls mb lv ld l ∧ G' 86 l = lvHi Ls mb lv ld l := by
  obtain ⟨G1, a1, a2, a3, a4, a5, a6, a7, a8, a9, a10, a11⟩ := k_130 (u := u) (fa := 94) (m := m) hf hs hp (.inr rfl)
  have hu := hR.2.2.2.2.1
  have hl8 := hR.2.2.2.1.2.1
  have hR1 : cRq S G1 u K Ls := hR.fx (fun a j y => a2 a j (by omega) (by omega) (by omega) (by omega))
  obtain ⟨G2, b1, b2, b3, b4⟩ := k_153l (f := f) (m := m) (ld := ld) hs hmb hw hlv Ls.length 0 f G1 (by omega) (by omega) a3 hR1 (fun j hj => by
    rw [if_neg (by omega), if_neg (by omega)]; exact ⟨a10 j hj, a11 j hj⟩)
  refine ⟨G2, (st_153 hs hp a1).trans b1, fun a j y1 y2 y3 y4 => (b2 a j y2 y3).trans (a2 a j y1 y2 y3 y4), b3, by rw [b2 _ _ (by omega) (by omega)]; exact a4, by rw [b2 _ _ (by omega) (by omega)]; exact a5, by rw [b2 _ _ (by omega) (by omega)]; exact a6, by rw [b2 _ _ (by omega) (by omega)]; exact a7, by rw [b2 _ _ (by omega) (by omega)]; exact a8, by rw [b2 _ _ (by omega) (by omega)]; exact a9, fun l hl => ?_⟩
  obtain ⟨y1, y2⟩ := b4 l hl
  by_cases c : l < Ls.length
  · rw [if_pos c] at y1 y2; exact ⟨y1, y2⟩
  · rw [if_neg c] at y1 y2
    rw [y1, y2]
    have e : Ls.getD l dLt = dLt := by rw [List.getD_eq_getElem?_getD, List.getElem?_eq_none (by omega)]; rfl
    unfold lvLo lvHi
    rw [e, if_neg (fun y => absurd y.1 (by decide)), if_neg (fun y => absurd y.1 (by decide))]
    exact ⟨rfl, rfl⟩
end
end
section
/-! THE CLASS: the WAYS of a level, by the LITERAL that leads -/
theorem l_least {P : Nat → Prop} : ∀ (n : Nat), P n → ∃ k, k ≤ n ∧ P k ∧ ∀ j, j < k → ¬ P j := by
  intro n
  induction n using Nat.strongRecOn with
  | ind n ih =>
    intro h
    by_cases c : ∃ j, j < n ∧ P j
    · obtain ⟨j, h1, h2⟩ := c
      obtain ⟨k, a1, a2, a3⟩ := ih j h1 h2
      exact ⟨k, by omega, a2, a3⟩
    · exact ⟨n, Nat.le_refl n, h, fun j hj hp => c ⟨j, hj, hp⟩⟩
theorem lt_ix {Ls : List pLt} {y : pLt} (h : y ∈ Ls) : ∃ l, l < Ls.length ∧ Ls.getD l dLt = y := by
  obtain ⟨j, hj, rfl⟩ := List.getElem_of_mem h
  exact ⟨j, hj, getD_e hj⟩
theorem lt_in {Ls : List pLt} {l : Nat} (h : l < Ls.length) : Ls.getD l dLt ∈ Ls := by rw [getD_e h]; exact List.getElem_mem h
/-- which LITERALS lead at level n + 1 -/
def ldM (ow n : Nat) : Nat := if ow = 0 then (if n = 0 then 1 else 0) else (if n = 0 then 0 else ow)
section
variable {s : pPg} {u : pRu} {rg np nv n mb ld ow : Nat} {Ls : List pLt} {R R0 : Nat → List pRw} {lo hi : Nat → Int}
theorem lit_W (hw : ∀ y ∈ Ls, wLt np nv y) {v : Nat → Int} (h : ∀ l, l < Ls.length → litO Ls R lo hi l v) (hn : ∀ l, l < Ls.length → (Ls.getD l dLt).1 = 2 → ∀ r ∈ R (Ls.getD l dLt).2.1.toNat, lo l ≤ r.2 ∧ r.2 ≤ hi l) : isW Ls nv R qO1 (vec nv v) := by
  have ev : ∀ k, k < nv → v k = vF (vec nv v) k := fun k hk => (vec_vF hk).symm
  refine ⟨vec_len, fun y hy h1 => ?_, sNC_xt hw ev (fun y hy => ?_)⟩
  · obtain ⟨l, hl, rfl⟩ := lt_ix hy
    obtain ⟨r, a1, a2, a3⟩ := (h l hl).1 h1
    rcases hw _ hy with ⟨_, _, _, _, _, b⟩ | ⟨b, _⟩
    · exact ⟨r, a1, trivial, sTs_xt b ev a3⟩
    · omega
  · obtain ⟨l, hl, rfl⟩ := lt_ix hy
    exact ⟨fun h2 ⟨r, r1, r2⟩ => (h l hl).2.1 h2 ⟨r, r1, hn l hl h2 r r1, r2⟩, (h l hl).2.2⟩
/-- RANKS within a RING -/
theorem wkC_rk (h0 : ∀ p, p < s.1.length → qK s p = rg → R0 p = []) : ∀ (n : Nat) (R : Nat → List pRw), wkC s rg R0 n R → ∀ p, p < s.1.length → qK s p = rg → ∀ r ∈ R p, 1 ≤ r.2 ∧ r.2 ≤ (n : Int)
  | 0, R, h, p, hp, hk, r, hr => by
    have h' : R p = R0 p := h p hp
    rw [h', h0 p hp hk] at hr
    cases hr
  | n + 1, R, h, p, hp, hk, r, hr => by
    obtain ⟨R1, a1, a2, a3⟩ := h
    rcases ((a3 p hp).2 r).mp hr with q | ⟨q, _⟩
    · have := wkC_rk h0 n R1 a1 p hp hk r q
      omega
    · omega
theorem ok_5 (hok : qOk s) (hu : u ∈ s.2.2.2.2.1) {y : pLt} (hy : y ∈ u.2.2.2.2.2) (h3 : y.1 ≠ 3) (h2 : y.1 = 2 ∨ qG u ≠ 0) : qK s y.2.1.toNat ≠ qK s u.1.toNat := by
  intro e
  obtain ⟨j, hj, hj'⟩ := List.getElem_of_mem hu
  refine hok.2.2 5 (((0 : Nat) : Int) + (s.2.2.2.2.1.getD j dRu).2.1) (Classical.byContradiction fun hn => ?_)
  have hna : ∀ k a, ¬ qSa s.2.1 s.2.2.2.2.1 s.2.2.2.1 0 s.1.length 0 k a := fun k a q => hok.2.2 k a (.inl q)
  apply hn
  refine .inr ⟨hna, rfl, j, Nat.zero_le _, hj, ?_, rfl⟩
  rw [getD_e hj, hj']
  unfold isF5
  rw [List.any_eq_true]
  exact ⟨y, hy, decide_eq_true ⟨h3, e, h2⟩⟩
/-- a new row that a rule without GATHERING gives is given by a WAY of which a LITERAL leads -/
theorem lv_semi (hok : qOk s) (hu : u ∈ s.2.2.2.2.1) (hg : qG u = 0) (hk : qK s u.1.toNat = rg) (hmb : ∀ j, mb.testBit j = true ↔ j < s.1.length ∧ qK s j = rg) (h0 : ∀ p, p < s.1.length → qK s p = rg → R0 p = []) (hs : ∀ p, p < s.1.length → (R0 p).Pairwise rwLt) (hC : wkC s rg R0 n R) (hr : ∀ p, p < s.1.length → ∀ r ∈ R p, 0 ≤ r.2 ∧ r.2 ≤ 1700) (how : ∀ l, ow.testBit l = true ↔ l < u.2.2.2.2.2.length ∧ ownL u.2.2.2.2.2 mb l) {xs : List Int} (hN : rNw R u.1.toNat xs) :
    (∃ v, isW u.2.2.2.2.2 u.2.2.2.2.1.length R qO1 v ∧ qMk u.2.2.2.1 (-1) (vF v) u.2.2.2.1.length = some xs) ↔ ∃ ld, (ldM ow n).testBit ld = true ∧ ∃ w, (∀ l, l < u.2.2.2.2.2.length → litO u.2.2.2.2.2 R (lvLo u.2.2.2.2.2 mb ((n + 1 : Nat) : Int) ld) (lvHi u.2.2.2.2.2 mb ((n + 1 : Nat) : Int) ld) l w) ∧ qMk u.2.2.2.1 (-1) w u.2.2.2.1.length = some xs := by
  obtain ⟨w1, w2, w3, w4, w5, w6, w7, w8, w9⟩ := hok.1.2.2.2.2.2.2 u hu
  have hwI : ∀ k, k < u.2.2.2.1.length → (k : Int) ≠ -1 → wEx u.2.2.2.2.1.length (u.2.2.2.1.getD k []) := fun k hk hn => by
    have hg' : u.2.2.1.1 = 0 := by
      by_cases c : u.2.2.1.1 = 0
      · exact c
      · have hg2 := hg
        unfold qG at hg2
        rw [if_neg c] at hg2
        rcases w5.1 with ⟨y, _⟩ | ⟨y, _⟩
        · exact y
        · have y' : 10 ≤ u.2.2.1.1 := y.1
          omega
    rcases w5.2 k hk with ⟨y, _⟩ | ⟨_, y⟩
    · rcases w5.1 with ⟨_, z, _⟩ | ⟨z, _⟩
      · have y' : (k : Int) = u.2.2.1.2.1 := y
        have z' : u.2.2.1.2.1 = -1 := z
        omega
      · have z' : 10 ≤ u.2.2.1.1 := z.1
        omega
    · exact y
  -- what an ATOM or a NOT reads
  have hpr : ∀ l, l < u.2.2.2.2.2.length → (u.2.2.2.2.2.getD l dLt).1 ≠ 3 → (u.2.2.2.2.2.getD l dLt).2.1.toNat < s.1.length := fun l hl h3 => by
    obtain ⟨z1, z2⟩ := w9 _ (lt_in hl)
    have z2' := z2 h3
    rcases z1 with ⟨_, _, z, _⟩ | ⟨z, _⟩
    · omega
    · exact absurd z h3
  have hn2 : ∀ l, l < u.2.2.2.2.2.length → (u.2.2.2.2.2.getD l dLt).1 = 2 → qK s (u.2.2.2.2.2.getD l dLt).2.1.toNat ≠ rg := fun l hl h2 => by
    rw [← hk]; exact ok_5 hok hu (lt_in hl) (by omega) (.inl h2)
  have hno : ∀ l, l < u.2.2.2.2.2.length → (u.2.2.2.2.2.getD l dLt).1 = 1 → ¬ ownL u.2.2.2.2.2 mb l → qK s (u.2.2.2.2.2.getD l dLt).2.1.toNat ≠ rg := fun l hl h1 hn e => hn ⟨h1, (hmb _).mpr ⟨hpr l hl (by omega), e⟩⟩
  have hso := wkC_out hs n R hC
  constructor
  · rintro ⟨v, ⟨v1, v2, v3⟩, v4⟩
    -- the LITERALS whose rows are all of the level before
    have main : ∀ ld, (ldM ow n).testBit ld = true → (∀ l, l < u.2.2.2.2.2.length → ownL u.2.2.2.2.2 mb l → ∃ r, r ∈ R (u.2.2.2.2.2.getD l dLt).2.1.toNat ∧ ((if l = ld then (n : Int) else 0) ≤ r.2 ∧ r.2 ≤ (if l < ld then (n : Int) - 1 else n)) ∧ sTs (vF v) (u.2.2.2.2.2.getD l dLt).2.2.2.1 r.1) → ∃ ld, (ldM ow n).testBit ld = true ∧ ∃ w, (∀ l, l < u.2.2.2.2.2.length → litO u.2.2.2.2.2 R (lvLo u.2.2.2.2.2 mb ((n + 1 : Nat) : Int) ld) (lvHi u.2.2.2.2.2 mb ((n + 1 : Nat) : Int) ld) l w) ∧ qMk u.2.2.2.1 (-1) w u.2.2.2.1.length = some xs := by
      intro ld h1 h2
      refine ⟨ld, h1, vF v, fun l hl => ?_, v4⟩
      refine ⟨fun q1 => ?_, fun q2 ⟨r, r1, _, r3⟩ => (v3 _ (lt_in hl)).1 q2 ⟨r, r1, r3⟩, (v3 _ (lt_in hl)).2⟩
      by_cases c : ownL u.2.2.2.2.2 mb l
      · obtain ⟨r, r1, r2, r3⟩ := h2 l hl c
        refine ⟨r, r1, ?_, r3⟩
        unfold lvLo lvHi
        rw [if_pos (show (u.2.2.2.2.2.getD l dLt).1 = 1 ∧ mb.testBit (u.2.2.2.2.2.getD l dLt).2.1.toNat = true from c)]
        have e1 : ((n + 1 : Nat) : Int) - 1 = n := by omega
        have e2 : ((n + 1 : Nat) : Int) - 2 = (n : Int) - 1 := by omega
        rw [e1, e2]
        refine ⟨?_, r2.2⟩
        by_cases c1 : l = ld
        · rw [if_pos ⟨c.1, c.2, c1⟩]; have := r2.1; rw [if_pos c1] at this; exact this
        · rw [if_neg (fun y => c1 y.2.2)]; have := r2.1; rw [if_neg c1] at this; exact this
      · obtain ⟨r, r1, _, r3⟩ := v2 _ (lt_in hl) q1
        refine ⟨r, r1, ?_, r3⟩
        unfold lvLo lvHi
        rw [if_neg (fun y => c ⟨y.1, y.2.1⟩), if_neg (fun y => c ⟨y.1, y.2⟩)]
        exact hr _ (hpr l hl (by omega)) r r1
    cases n with
    | zero =>
      by_cases c : ∃ l, l < u.2.2.2.2.2.length ∧ ownL u.2.2.2.2.2 mb l
      · obtain ⟨l, hl, ho⟩ := c
        obtain ⟨r, r1, _⟩ := v2 _ (lt_in hl) ho.1
        obtain ⟨k1, k2⟩ := (hmb _).mp ho.2
        have h' : R (u.2.2.2.2.2.getD l dLt).2.1.toNat = R0 (u.2.2.2.2.2.getD l dLt).2.1.toNat := hC _ k1
        rw [h', h0 _ k1 k2] at r1
        cases r1
      · have e : ow = 0 := Nat.eq_of_testBit_eq (fun j => by
          rw [Nat.zero_testBit]
          cases hb : ow.testBit j with
          | false => rfl
          | true => exact absurd ⟨j, (how j).mp hb⟩ c)
        refine main 0 (by unfold ldM; rw [if_pos e]; decide) (fun l hl ho => absurd ⟨l, hl, ho⟩ c)
    | succ k =>
      obtain ⟨R1, a1, a2, a3⟩ := hC
      have hso1 := wkC_out hs k R1 a1
      have sub : ∀ p, p < s.1.length → ∀ r ∈ R1 p, r ∈ R p := fun p hp r q => ((a3 p hp).2 r).mpr (.inl q)
      by_cases c : ∃ l, l < u.2.2.2.2.2.length ∧ ownL u.2.2.2.2.2 mb l ∧ ¬ ∃ r, r ∈ R (u.2.2.2.2.2.getD l dLt).2.1.toNat ∧ r.2 ≤ (k : Int) ∧ sTs (vF v) (u.2.2.2.2.2.getD l dLt).2.2.2.1 r.1
      · obtain ⟨l', hl'⟩ := c
        obtain ⟨ld, d1, ⟨d2, d3, d4⟩, d5⟩ := l_least (P := fun l => l < u.2.2.2.2.2.length ∧ ownL u.2.2.2.2.2 mb l ∧ ¬ ∃ r, r ∈ R (u.2.2.2.2.2.getD l dLt).2.1.toNat ∧ r.2 ≤ (k : Int) ∧ sTs (vF v) (u.2.2.2.2.2.getD l dLt).2.2.2.1 r.1) l' hl'
        have ht := (how ld).mpr ⟨d2, d3⟩
        have hne : ow ≠ 0 := fun e => by rw [e, Nat.zero_testBit] at ht; cases ht
        refine main ld (by unfold ldM; rw [if_neg hne, if_neg (by omega)]; exact ht) (fun l hl ho => ?_)
        obtain ⟨k1, k2⟩ := (hmb _).mp ho.2
        have rk := wkC_rk h0 (k + 1) R ⟨R1, a1, a2, a3⟩ _ k1 k2
        by_cases c1 : l < ld
        · rw [if_neg (by omega), if_pos c1]
          by_cases c2 : ∃ r, r ∈ R (u.2.2.2.2.2.getD l dLt).2.1.toNat ∧ r.2 ≤ (k : Int) ∧ sTs (vF v) (u.2.2.2.2.2.getD l dLt).2.2.2.1 r.1
          · obtain ⟨r, r1, r2, r3⟩ := c2
            have := rk r r1
            exact ⟨r, r1, ⟨by omega, by omega⟩, r3⟩
          · exact absurd ⟨hl, ho, c2⟩ (d5 l c1)
        · rw [if_neg c1]
          obtain ⟨r, r1, _, r3⟩ := v2 _ (lt_in hl) ho.1
          have b := rk r r1
          refine ⟨r, r1, ⟨?_, b.2⟩, r3⟩
          by_cases c2 : l = ld
          · subst c2
            rw [if_pos rfl]
            by_cases c3 : r.2 ≤ (k : Int)
            · exact absurd ⟨r, r1, c3, r3⟩ d4
            · omega
          · rw [if_neg c2]; omega
      · exfalso
        have hv : isW u.2.2.2.2.2 u.2.2.2.2.1.length R1 qO1 v := by
          refine ⟨v1, fun y hy h1 => ?_, fun y hy => ⟨fun h2 ⟨r, r1, r2⟩ => ?_, (v3 y hy).2⟩⟩
          · obtain ⟨l, hl, rfl⟩ := lt_ix hy
            by_cases co : ownL u.2.2.2.2.2 mb l
            · by_cases c2 : ∃ r, r ∈ R (u.2.2.2.2.2.getD l dLt).2.1.toNat ∧ r.2 ≤ (k : Int) ∧ sTs (vF v) (u.2.2.2.2.2.getD l dLt).2.2.2.1 r.1
              · obtain ⟨r, r1, r2, r3⟩ := c2
                refine ⟨r, ?_, trivial, r3⟩
                rcases ((a3 _ (hpr l hl (by omega))).2 r).mp r1 with q | ⟨q, _⟩
                · exact q
                · omega
              · exact absurd ⟨l, hl, co, c2⟩ c
            · have e := lv_out a3 (hpr l hl (by omega)) (hno l hl h1 co) (hso1.1 _ (hpr l hl (by omega)))
              obtain ⟨r, r1, r2, r3⟩ := v2 _ hy h1
              rw [e] at r1
              exact ⟨r, r1, r2, r3⟩
          · obtain ⟨l, hl, rfl⟩ := lt_ix hy
            exact (v3 _ hy).1 h2 ⟨r, sub _ (hpr l hl (by omega)) r r1, r2⟩
        obtain ⟨j, hj, hj'⟩ := List.getElem_of_mem hu
        have hp : u.1.toNat < s.1.length := by omega
        have hD : stD s rg ((k + 1 : Nat) : Int) R1 s.2.2.2.2.1.length u.1.toNat xs := by
          refine ⟨j, hj, hj, ?_, hk, ?_, ?_, fun w hw => hN w (sub _ hp w hw)⟩
          · rw [getD_e hj, hj']; omega
          · rw [getD_e hj, hj']; exact fun q => absurd hg q
          · rw [getD_e hj, hj']
            unfold rlD
            rw [if_pos hg]
            exact ⟨v, hv, v4⟩
        exact hN (xs, ((k + 1 : Nat) : Int)) (((a3 _ hp).2 _).mpr (.inr ⟨rfl, hD⟩)) rfl
  · rintro ⟨ld, _, w, b1, b2⟩
    refine ⟨vec u.2.2.2.2.1.length w, lit_W (fun y hy => (w9 y hy).1) b1 (fun l hl h2 r hr' => ?_), ?_⟩
    · unfold lvLo lvHi
      rw [if_neg (fun y => by omega), if_neg (fun y => by omega)]
      exact hr _ (hpr l hl (by omega)) r hr'
    · rw [← qMk_xt hwI (fun k hk => (vec_vF hk).symm) _ (Nat.le_refl _)]; exact b2
end
end
section
/-! THE CLASS: groups, at most N at a time (as gIv of the reference, with any N) -/
section
variable {α : Type} {key : α → Option (List Int)} {val : α → Int} {N : Nat}
def gIw (N : Nat) (kk : Int) (key : α → Option (List Int)) (val : α → Int) (W : List α) (S : List pRw) (m : Int) : Prop := S.Pairwise rwLt ∧ S.length ≤ N ∧ (m = 0 ∨ m = 1) ∧ (∀ y ∈ S, gVs key val W y.1 ≠ [] ∧ y.2 = gAg kk (gVs key val W y.1)) ∧ (∀ v ∈ W, ∀ xs, key v = some xs → (∃ w, (xs, w) ∈ S) ∨ (m = 1 ∧ S.length = N ∧ ∀ y ∈ S, vLt y.1 xs)) ∧ (m = 1 → S.length = N)
theorem gIw_0 (N : Nat) (kk : Int) : gIw N kk key val [] [] 0 := ⟨List.Pairwise.nil, Nat.zero_le _, .inl rfl, fun y hy => absurd hy (by simp), fun v hv => absurd hv (by simp), fun h => by cases h⟩
theorem gIw.skip {kk m : Int} {W : List α} {S : List pRw} {v : α} (h : gIw N kk key val W S m) (hv : key v = none) : gIw N kk key val (W ++ [v]) S m := by
  obtain ⟨a1, a2, a3, a4, a5, a6⟩ := h
  have e : ∀ xs, gVs key val (W ++ [v]) xs = gVs key val W xs := fun xs => by
    rw [gVs_s, if_neg (by rw [hv]; exact fun q => by cases q)]
  refine ⟨a1, a2, a3, fun y hy => by rw [e]; exact a4 y hy, fun u hu xs hk => ?_, a6⟩
  rcases List.mem_append.mp hu with hu | hu
  · exact a5 u hu xs hk
  · rw [List.mem_singleton.mp hu, hv] at hk
    cases hk
/-- the group is there -/
theorem gIw.upd {kk m : Int} {W : List α} {S : List pRw} {v : α} {xs : List Int} {i : Nat} (h : gIw N kk key val W S m) (hv : key v = some xs) (hi : i < S.length) (hx : (S.getD i dRw).1 = xs) : gIw N kk key val (W ++ [v]) (S.set i (xs, qCo kk (S.getD i dRw).2 (val v))) m := by
  obtain ⟨a1, a2, a3, a4, a5, a6⟩ := h
  have hkey : ∀ j, ((S.set i (xs, qCo kk (S.getD i dRw).2 (val v))).getD j dRw).1 = (S.getD j dRw).1 := fun j => by
    rw [getD_set hi]
    by_cases cj : j = i
    · rw [if_pos cj, cj, hx]
    · rw [if_neg cj]
  have hSi : S.getD i dRw ∈ S := by rw [getD_e hi]; exact List.getElem_mem hi
  have other : ∀ j, j < S.length → j ≠ i → (S.getD j dRw).1 ≠ xs := fun j hj hne q => by
    by_cases c : j < i
    · have : vLt (S.getD j dRw).1 (S.getD i dRw).1 := srt_get (d := dRw) a1 c hi
      rw [q, hx] at this
      exact vLt_irr _ this
    · have : vLt (S.getD i dRw).1 (S.getD j dRw).1 := srt_get (d := dRw) a1 (by omega) hj
      rw [q, hx] at this
      exact vLt_irr _ this
  refine ⟨?_, by rw [List.length_set]; exact a2, a3, fun y hy => ?_, fun u hu ys hk => ?_, by rw [List.length_set]; exact a6⟩
  · rw [List.pairwise_iff_getElem]
    intro a b ha hb hab
    have ha' : a < S.length := by rw [List.length_set] at ha; exact ha
    have hb' : b < S.length := by rw [List.length_set] at hb; exact hb
    rw [← getD_e (d := dRw) ha, ← getD_e (d := dRw) hb]
    show vLt _ _
    rw [hkey, hkey]
    exact srt_get (d := dRw) a1 hab hb'
  · obtain ⟨j, hj, rfl⟩ := mem_get.mp hy
    rw [List.length_set] at hj
    rw [getD_set hi]
    by_cases cj : j = i
    · rw [if_pos cj, gVs_s]
      show (if key v = some xs then _ else _) ≠ [] ∧ qCo kk (S.getD i dRw).2 (val v) = gAg kk (if key v = some xs then _ else _)
      obtain ⟨b1, b2⟩ := a4 _ hSi
      rw [hx] at b1 b2
      rw [if_pos hv, gAg_s b1, ← b2]
      exact ⟨by simp, rfl⟩
    · rw [if_neg cj, gVs_s, if_neg (by rw [hv]; intro q; injection q with q; exact other j hj cj q.symm)]
      exact a4 _ (mem_get.mpr ⟨j, hj, rfl⟩)
  · have cover : ∀ ys w, (ys, w) ∈ S → ∃ w, (ys, w) ∈ S.set i (xs, qCo kk (S.getD i dRw).2 (val v)) := fun ys w hm => by
      obtain ⟨j, hj, e⟩ := mem_get.mp hm
      refine ⟨((S.set i (xs, qCo kk (S.getD i dRw).2 (val v))).getD j dRw).2, mem_get.mpr ⟨j, by rw [List.length_set]; exact hj, ?_⟩⟩
      refine Prod.ext ?_ rfl
      rw [hkey, e]
    rcases List.mem_append.mp hu with hu | hu
    · rcases a5 u hu ys hk with ⟨w, hw⟩ | ⟨b1, b2, b3⟩
      · exact .inl (cover ys w hw)
      · refine .inr ⟨b1, by rw [List.length_set]; exact b2, fun y hy => ?_⟩
        obtain ⟨j, hj, rfl⟩ := mem_get.mp hy
        rw [List.length_set] at hj
        rw [hkey]
        exact b3 _ (mem_get.mpr ⟨j, hj, rfl⟩)
    · rw [List.mem_singleton.mp hu, hv] at hk
      injection hk with hk
      rw [← hk]
      exact .inl (cover xs (S.getD i dRw).2 (by rw [← hx]; exact hSi))
/-- a new group -/
theorem gIw.new {kk m : Int} {W : List α} {S : List pRw} {v : α} {xs : List Int} {i : Nat} (h : gIw N kk key val W S m) (hv : key v = some xs) (hne : ∀ y ∈ S, y.1 ≠ xs) (hi : i ≤ S.length) (hb : ∀ j, j < i → vLt (S.getD j dRw).1 xs) (ha : ∀ j, i ≤ j → j < S.length → vLt xs (S.getD j dRw).1) :
    gIw N kk key val (W ++ [v]) ((S.take i ++ (xs, val v) :: S.drop i).take N) (if S.length = N then 1 else m) := by
  obtain ⟨a1, a2, a3, a4, a5, a6⟩ := h
  have hlen : (S.take i ++ (xs, val v) :: S.drop i).length = S.length + 1 := len_ins hi
  have hget : ∀ j, (S.take i ++ (xs, val v) :: S.drop i).getD j dRw = if j < i then S.getD j dRw else if j = i then (xs, val v) else S.getD (j - 1) dRw := fun j => getD_ins hi
  have srt : (S.take i ++ (xs, val v) :: S.drop i).Pairwise rwLt := srt_ins a1 (fun y hy => by
      obtain ⟨j, hj, rfl⟩ := List.getElem_of_mem hy
      rw [List.length_take] at hj
      rw [List.getElem_take]
      have := hb j (by omega)
      rw [getD_e (by omega : j < S.length)] at this
      exact this) (fun y hy => by
      obtain ⟨j, hj, rfl⟩ := List.getElem_of_mem hy
      rw [List.length_drop] at hj
      rw [List.getElem_drop]
      have := ha (i + j) (by omega) (by omega)
      rw [getD_e (by omega : i + j < S.length)] at this
      exact this)
  have tlen : ((S.take i ++ (xs, val v) :: S.drop i).take N).length = min N (S.length + 1) := by rw [len_t, hlen]
  have tmem : ∀ y, y ∈ (S.take i ++ (xs, val v) :: S.drop i).take N → y ∈ S ∨ y = (xs, val v) := fun y hy => srt_ins_mem.mp (List.mem_of_mem_take hy)
  have tin : ∀ y, (y ∈ S ∨ y = (xs, val v)) → y ∈ (S.take i ++ (xs, val v) :: S.drop i).take N ∨ (S.length = N ∧ ∀ z ∈ (S.take i ++ (xs, val v) :: S.drop i).take N, vLt z.1 y.1) := fun y hy => by
    obtain ⟨j, hj, e⟩ := mem_get.mp (srt_ins_mem (k := i).mpr hy)
    by_cases c : j < N
    · refine .inl (mem_get.mpr ⟨j, by rw [tlen]; omega, ?_⟩)
      rw [getD_tk c]
      exact e
    · refine .inr ⟨by omega, fun z hz => ?_⟩
      obtain ⟨k, hk, ek⟩ := mem_get.mp hz
      rw [tlen] at hk
      rw [getD_tk (by omega)] at ek
      have := srt_get (d := dRw) srt (by omega : k < j) hj
      rw [e, ek] at this
      exact this
  -- if the group has come before, it lies behind all
  have old : gVs key val W xs ≠ [] → i = N ∧ m = 1 ∧ S.length = N := fun hg => by
    obtain ⟨u, hu, hku⟩ := gVs_ne hg
    rcases a5 u hu xs hku with ⟨w, hw⟩ | ⟨b1, b2, b3⟩
    · exact absurd rfl (hne _ hw)
    · refine ⟨?_, b1, b2⟩
      by_cases c : i < S.length
      · exact absurd (vLt_tr (ha i (Nat.le_refl _) c) (b3 _ (mem_get.mpr ⟨i, c, rfl⟩))) (vLt_irr _)
      · omega
  refine ⟨srt.sublist (List.take_sublist _ _), by rw [tlen]; omega, ?_, fun y hy => ?_, fun u hu ys hk => ?_, fun hm1 => ?_⟩
  · by_cases c : S.length = N
    · rw [if_pos c]; exact .inr rfl
    · rw [if_neg c]; exact a3
  · rcases tmem y hy with hS | hS
    · rw [gVs_s, if_neg (by rw [hv]; intro q; injection q with q; exact hne y hS q.symm)]
      exact a4 y hS
    · rw [hS, gVs_s]
      show (if key v = some xs then _ else _) ≠ [] ∧ val v = gAg kk (if key v = some xs then _ else _)
      rw [if_pos hv]
      by_cases hg : gVs key val W xs = []
      · rw [hg]
        exact ⟨by simp, rfl⟩
      · exfalso
        obtain ⟨o1, o2, o3⟩ := old hg
        rw [hS] at hy
        obtain ⟨j, hj, e⟩ := mem_get.mp hy
        rw [tlen] at hj
        rw [getD_tk (by omega), hget, if_pos (by omega)] at e
        exact hne (S.getD j dRw) (mem_get.mpr ⟨j, by omega, rfl⟩) (by rw [e])
  · have third : ∀ y : pRw, S.length = N → (∀ z ∈ (S.take i ++ (xs, val v) :: S.drop i).take N, vLt z.1 y.1) → ((if S.length = N then (1 : Int) else m) = 1 ∧ ((S.take i ++ (xs, val v) :: S.drop i).take N).length = N ∧ ∀ z ∈ (S.take i ++ (xs, val v) :: S.drop i).take N, vLt z.1 y.1) := fun y h1 h2 => ⟨by rw [if_pos h1], by rw [tlen, h1]; omega, h2⟩
    rcases List.mem_append.mp hu with hu | hu
    · rcases a5 u hu ys hk with ⟨w, hw⟩ | ⟨b1, b2, b3⟩
      · rcases tin (ys, w) (.inl hw) with t | ⟨t1, t2⟩
        · exact .inl ⟨w, t⟩
        · exact .inr (third (ys, w) t1 t2)
      · refine .inr (third (ys, 0) b2 (fun z hz => ?_))
        rcases tmem z hz with hS | hS
        · exact b3 z hS
        · rw [hS] at hz ⊢
          obtain ⟨j, hj, e⟩ := mem_get.mp hz
          rw [tlen] at hj
          have hij : i < S.length := by
            rw [getD_tk (by omega), hget] at e
            by_cases c1 : j < i
            · rw [if_pos c1] at e
              exact absurd (by rw [e]) (hne (S.getD j dRw) (mem_get.mpr ⟨j, by omega, rfl⟩))
            · rw [if_neg c1] at e
              by_cases c2 : j = i
              · omega
              · rw [if_neg c2] at e
                exact absurd (by rw [e]) (hne (S.getD (j - 1) dRw) (mem_get.mpr ⟨j - 1, by omega, rfl⟩))
          exact vLt_tr (ha i (Nat.le_refl _) hij) (b3 _ (mem_get.mpr ⟨i, hij, rfl⟩))
    · rw [List.mem_singleton.mp hu, hv] at hk
      injection hk with hk
      rw [← hk]
      rcases tin (xs, val v) (.inr rfl) with t | ⟨t1, t2⟩
      · exact .inl ⟨val v, t⟩
      · exact .inr (third (xs, val v) t1 t2)
  · by_cases c : S.length = N
    · rw [tlen, c]; omega
    · rw [if_neg c] at hm1
      exact absurd (a6 hm1) c
end
end
