/-! THE CLASS: gather(), one WAY -/
section
variable {f u np nv a p fn i t k n gO gA : Nat} {S : Nat → Nat × Nat × Nat} {G G' : xG_} {m : Nat × Nat} {K : pCd} {Ls : List pLt} {pl : List Nat} {br : Int} {qn xp cp : Nat → Nat} {R : Nat → List pRw} {lo hi : Nat → Int} {Bf : Nat} {I : List pCd} {g : Int × Int × Int} {L : List pRw} {kk mo : Int} {last : Option (List Int)} {r4 : Nat → Nat → Int → Int → xT_ → Option (Int × xT_)} {r43 : Nat → Nat → Int → Int → Int → xT_ → Option (Int × xT_)} {v0 : Nat → Int} {V : List (Nat → Int)}
theorem cWE.hr (h : cWE S G u K Ls pl 94 fn np nv a br qn xp cp R lo hi) (hxp : ∀ q, q < np → 103 < xp q) (ps : cPs G') (g2 : ∀ b j, b ≠ 92 → ¬ (99 ≤ b ∧ b ≤ 103) → G' b j = G b j) : cWE S G' u K Ls pl 94 fn np nv a br qn xp cp R lo hi := by
  obtain ⟨⟨a1, a2, a3, a4, a5, a6, a7, a8⟩, b1, c1, ⟨d1, d2⟩, e1', f1⟩ := h
  have hu := b1.2.2.2.2.1
  refine ⟨⟨a1, ps, by rw [g2 _ _ (by omega) (by omega)]; exact a3, by rw [g2 _ _ (by omega) (by omega)]; exact a4, by rw [g2 _ _ (by omega) (by omega)]; exact a5, a6, a7, a8⟩, b1.fx (fun b j y => g2 b j (by omega) (by omega)), c1, ⟨d1, fun k hk => ?_⟩, fun q hq => ?_, fun l hl => ?_⟩
  · rw [g2 _ _ (by omega) (by omega), g2 _ _ (by omega) (by omega)]; exact d2 k hk
  · obtain ⟨q1, q2, q3, q4⟩ := e1' q hq
    have := hxp q hq
    exact ⟨by rw [g2 _ _ (by omega) (by omega)]; exact q1, q2, q3.ge (fun _ _ _ => rfl) (fun j => g2 _ _ (by omega) (by omega)) (fun j => g2 _ _ (by omega) (by omega)) (fun j => g2 _ _ (by omega) (by omega)), q4⟩
  · rw [g2 _ _ (by omega) (by omega), g2 _ _ (by omega) (by omega)]; exact f1 l hl
theorem wSt8.hr (h : wSt8 Ls pl a br R lo hi G Bf V k) (g2 : ∀ b j, 83 ≤ b → b < 92 → G' b j = G b j) : wSt8 Ls pl a br R lo hi G' Bf V k := by
  rcases h with ⟨st, b, vl, V1, k1, V2, k2, a1, a2, a3, a4, a5, a6, a7, a8, a9, a10⟩ | ⟨n, B, a1, a2, a3, a4, a5⟩
  · exact .inl ⟨st, b, vl, V1, k1, V2, k2, a1, by rw [g2 _ _ (by omega) (by omega)]; exact a2, by rw [g2 _ _ (by omega) (by omega)]; exact a3, a4.ge (g2 _ _ (by omega) (by omega)) (fun j _ => g2 _ _ (by omega) (by omega)), a5, a6, a7, a8.ge _ _ _ _ (fun a j _ _ _ => g2 _ _ (by omega) (by omega)) (g2 _ _ (by omega) (by omega)) (fun j _ => g2 _ _ (by omega) (by omega)), a9, a10⟩
  · exact .inr ⟨n, B, a1, by rw [g2 _ _ (by omega) (by omega)]; exact a2, by rw [g2 _ _ (by omega) (by omega)]; exact a3, a4, a5.ge _ _ _ _ (fun a j _ _ _ => g2 _ _ (by omega) (by omega)) (g2 _ _ (by omega) (by omega)) (fun j _ => g2 _ _ (by omega) (by omega))⟩
/-- the last group of the turns before -/
def cLa (G : xG_) (n t : Nat) (last : Option (List Int)) : Prop := last = none ∧ t = 0 ∨ ∃ ys, last = some ys ∧ t ≠ 0 ∧ ys.length = n ∧ ∀ c, c < n → G 104 c = ys.getD c 0
theorem gKy_e (kk : Int) (x : Int) (hx : gXv kk (gO : Int) v0 = x) : gKy kk (gO : Int) I (gA : Int) last v0 = if kk = 2 ∧ 2000000000000 ≤ x then none else (qMk I (gA : Int) v0 I.length).bind (gLa last) := by
  unfold gKy
  rw [hx]
theorem k_157v (hf : 100003010 < f) (hxp : ∀ q, q < np → 103 < xp q) (hnI : I.length = n) (hn : n ≤ 4) (hwI : wIe nv I (gA : Int)) (hBf : ∀ j, j < nv → Bf.testBit j = true) (h : cWE S G u K Ls pl 94 fn np nv a br qn xp cp R lo hi) (hst : wSt8 Ls pl a br R lo hi G Bf (v0 :: V) k) (hk : k ≤ 100000000) (hi7 : i < 10000000) (hI : cIt G u K g I) (h3 : G u 3 = (gA : Int)) (h4 : G u 4 = kk + 9) (hkk : kk = 1 ∨ kk = 2 ∨ kk = 3 ∨ kk = 4) (h5 : kk ≠ 1 → G u 5 = (gO : Int) ∧ gO < nv) (hnv : nv ≤ 8) (hgr : cGr S G n L) (hL : L.Pairwise rwLt) (hb : ∀ y ∈ L, -4000000000000000000 ≤ y.2 ∧ y.2 ≤ 4000000000000000000) (hla : cLa G n t last) (hm : mo = 0 ∨ mo = 1) (hmk : mo = 1 → kk = 2) :
    ∃ G' k', cWE S G' u K Ls pl 94 fn np nv a br qn xp cp R lo hi ∧ wSt8 Ls pl a br R lo hi G' Bf V k' ∧ k' ≤ k ∧ (∀ b j, ¬ (83 ≤ b ∧ b ≤ 92) → ¬ (99 ≤ b ∧ b ≤ 103) → G' b j = G b j) ∧
      ((gKy kk (gO : Int) I (gA : Int) last v0 = none ∧ cGr S G' n L ∧ c157_43b r4 r43 f 93 u mo (t : Int) (i : Int) (S, G, m) = r43 93 u mo (t : Int) ((i + 1 : Nat) : Int) (S, G', m)) ∨
       ∃ xs, gKy kk (gO : Int) I (gA : Int) last v0 = some xs ∧ ((∃ i', i' < L.length ∧ (L.getD i' dRw).1 = xs ∧ cGr S G' n (L.set i' (xs, qCo kk (L.getD i' dRw).2 (gXv kk (gO : Int) v0))) ∧ c157_43b r4 r43 f 93 u mo (t : Int) (i : Int) (S, G, m) = r43 93 u mo (t : Int) ((i + 1 : Nat) : Int) (S, G', m)) ∨
        ((∀ y ∈ L, y.1 ≠ xs) ∧ ∃ i', i' ≤ L.length ∧ (∀ j, j < i' → vLt (L.getD j dRw).1 xs) ∧ (∀ j, i' ≤ j → j < L.length → vLt xs (L.getD j dRw).1) ∧ cGr S G' n ((L.take i' ++ (xs, gXv kk (gO : Int) v0) :: L.drop i').take 512) ∧
          c157_43b r4 r43 f 93 u mo (t : Int) (i : Int) (S, G, m) = if L.length = 512 then (if kk = 2 then r43 93 u 1 (t : Int) ((i + 1 : Nat) : Int) (S, G', m) else some (0, (S, G', m))) else r43 93 u mo (t : Int) ((i + 1 : Nat) : Int) (S, G', m)))) := by
  have ei : xwr ((i : Int) + 1) = ((i + 1 : Nat) : Int) := by rw [xwr_g _ (by omega) (by omega)]; omega
  have hs := h.1.1
  have hu := h.2.1.2.2.2.2.1
  have us : S u = (1, 6, 20) := h.2.1.1.1
  rcases k_next (m := m) hf h hst hk with ⟨G1, e1, e2, e3⟩ | ⟨G1, v, V', k', e1, e2, e3, e4, e5, e6⟩
  · cases e3
  · injection e3 with q1 q2
    subst q1 q2
    have h1 := h.ge e2
    have f1 : ∀ b j, ¬ (83 ≤ b ∧ b ≤ 92) → G1 b j = G b j := fun b j y => e2 b j (by omega) (by omega) (by omega)
    have h41 : G1 u 4 = kk + 9 := by rw [f1 _ _ (by omega)]; exact h4
    have hx : (if kk = 1 then 1 else G1 84 gO) = gXv kk (gO : Int) v0 := by
      unfold gXv
      by_cases c : kk = 1
      · rw [if_pos c, if_pos c]
      · rw [if_neg c, if_neg c, Int.toNat_natCast]
        exact (e6 gO (hBf gO (h5 c).2)).2.1
    have hxb : kk = 2 → vOk (gXv kk (gO : Int) v0) := fun c => by
      unfold gXv
      rw [if_neg (by omega), Int.toNat_natCast]
      exact (e6 gO (hBf gO (h5 (by omega)).2)).2.2
    have hxr : -4000000000000 ≤ gXv kk (gO : Int) v0 ∧ gXv kk (gO : Int) v0 ≤ 4000000000000 := by
      unfold gXv
      by_cases c : kk = 1
      · rw [if_pos c]; decide
      · rw [if_neg c, Int.toNat_natCast]
        rcases (e6 gO (hBf gO (h5 c).2)).2.2 with q | q <;> omega
    have st0 : c157_43b r4 r43 f 93 u mo (t : Int) (i : Int) (S, G, m) = _ := ((st_157a (r4 := r4) (r43 := r43) (u := u) (mo := mo) (t := t) hs h.1.2.1 hi7 e1).trans (st_157b (gO := gO) hs h1.1.2.1 us h41 (fun c => ⟨by rw [f1 _ _ (by omega)]; exact (h5 c).1, by have := (h5 c).2; omega⟩))).trans (st_157c us h41)
    rw [hx] at st0
    rw [gKy_e kk _ rfl]
    by_cases c2 : kk = 2 ∧ 1000000000000 < gXv kk (gO : Int) v0
    · have c2' : kk = 2 ∧ 2000000000000 ≤ gXv kk (gO : Int) v0 := ⟨c2.1, by rcases hxb c2.1 with q | q <;> omega⟩
      rw [if_pos c2] at st0
      refine ⟨G1, k', h1, e5, by omega, fun b j y1 _ => f1 b j y1, .inl ⟨by rw [if_pos c2'], hgr.ge (fun b j y1 y2 => f1 b j (by omega)), st0.trans (st_157n ei)⟩⟩
    · have c2' : ¬ (kk = 2 ∧ 2000000000000 ≤ gXv kk (gO : Int) v0) := fun y => c2 ⟨y.1, by omega⟩
      rw [if_neg c2] at st0
      rw [if_neg c2']
      have hI1 : cIt G1 u K g I := hI.fx hu (fun b j y => f1 b j (by omega))
      have hV1 : ∀ c, c < I.length → (c : Int) ≠ (gA : Int) → cVl G1 (qVm (I.getD c [])) v0 := fun c hc hn j hj => e6 j (hBf j (qVm_in (hwI c hc hn).1.1 j hj))
      obtain ⟨b, G2, g1, g2, g3⟩ := k_142h (f := f) (m := m) (vl := v0) (by omega) (by omega) hwI h1.wy hI1 (by rw [f1 _ _ (by omega)]; exact h3) hV1
      have ps2 : cPs G2 := h1.1.2.1.ge (fun b j hz => g2 b j (by
        rcases hz with z | z | z | z | z | z | z | ⟨z, z1, z2, k, z3⟩ | z | z | z | ⟨k, z1, z2, z3⟩ <;> omega) (by
        rcases hz with z | z | z | z | z | z | z | ⟨z, z1, z2, k, z3⟩ | z | z | z | ⟨k, z1, z2, z3⟩ <;> omega))
      have z2 : ∀ b j, ¬ (83 ≤ b ∧ b ≤ 92) → b ≠ 103 → G2 b j = G b j := fun b j y1 y2 => by rw [g2 b j (by omega) y2, f1 b j y1]
      have st1 := st0.trans (st_157h hs h1.1.2.1 g1)
      have ws2 := h1.hr hxp ps2 (fun b j y1 y2 => g2 b j y1 (by omega))
      have wst2 := e5.hr (G' := G2) (fun b j y1 y2 => g2 b j (by omega) (by omega))
      have gr2 : cGr S G2 n L := hgr.ge (fun b j y1 y2 => z2 b j (by omega) (by omega))
      have la2 : cLa G2 n t last := by
        rcases hla with q | ⟨ys, y1, y2, y3, y4⟩
        · exact .inl q
        · exact .inr ⟨ys, y1, y2, y3, fun c hc => by rw [z2 _ _ (by omega) (by omega)]; exact y4 c hc⟩
      have skip : (qMk I (gA : Int) v0 I.length).bind (gLa last) = none → c157_43b r4 r43 f 93 u mo (t : Int) (i : Int) (S, G, m) = r43 93 u mo (t : Int) ((i + 1 : Nat) : Int) (S, G2, m) → ∃ G' k', cWE S G' u K Ls pl 94 fn np nv a br qn xp cp R lo hi ∧ wSt8 Ls pl a br R lo hi G' Bf V k' ∧ k' ≤ k ∧ (∀ b j, ¬ (83 ≤ b ∧ b ≤ 92) → ¬ (99 ≤ b ∧ b ≤ 103) → G' b j = G b j) ∧ (((qMk I (gA : Int) v0 I.length).bind (gLa last) = none ∧ cGr S G' n L ∧ c157_43b r4 r43 f 93 u mo (t : Int) (i : Int) (S, G, m) = r43 93 u mo (t : Int) ((i + 1 : Nat) : Int) (S, G', m)) ∨ ∃ xs, (qMk I (gA : Int) v0 I.length).bind (gLa last) = some xs ∧ ((∃ i', i' < L.length ∧ (L.getD i' dRw).1 = xs ∧ cGr S G' n (L.set i' (xs, qCo kk (L.getD i' dRw).2 (gXv kk (gO : Int) v0))) ∧ c157_43b r4 r43 f 93 u mo (t : Int) (i : Int) (S, G, m) = r43 93 u mo (t : Int) ((i + 1 : Nat) : Int) (S, G', m)) ∨ ((∀ y ∈ L, y.1 ≠ xs) ∧ ∃ i', i' ≤ L.length ∧ (∀ j, j < i' → vLt (L.getD j dRw).1 xs) ∧ (∀ j, i' ≤ j → j < L.length → vLt xs (L.getD j dRw).1) ∧ cGr S G' n ((L.take i' ++ (xs, gXv kk (gO : Int) v0) :: L.drop i').take 512) ∧ c157_43b r4 r43 f 93 u mo (t : Int) (i : Int) (S, G, m) = if L.length = 512 then (if kk = 2 then r43 93 u 1 (t : Int) ((i + 1 : Nat) : Int) (S, G', m) else some (0, (S, G', m))) else r43 93 u mo (t : Int) ((i + 1 : Nat) : Int) (S, G', m)))) := fun q1 q2 => ⟨G2, k', ws2, wst2, by omega, fun b j y1 y2 => z2 b j y1 (by omega), .inl ⟨q1, gr2, q2⟩⟩
      rcases g3 with ⟨b1, ys, y1, y2⟩ | ⟨b0, y1⟩
      · subst b1
        have ly : ys.length = n := by rw [qMk_len _ _ y1, hnI]
        have addg : (qMk I (gA : Int) v0 I.length).bind (gLa last) = some ys → c157_43b r4 r43 f 93 u mo (t : Int) (i : Int) (S, G, m) = c157_146 r4 r43 f 93 u mo (t : Int) (i : Int) (gXv kk (gO : Int) v0) (S, G2, m) → ∃ G' k', cWE S G' u K Ls pl 94 fn np nv a br qn xp cp R lo hi ∧ wSt8 Ls pl a br R lo hi G' Bf V k' ∧ k' ≤ k ∧ (∀ b j, ¬ (83 ≤ b ∧ b ≤ 92) → ¬ (99 ≤ b ∧ b ≤ 103) → G' b j = G b j) ∧ (((qMk I (gA : Int) v0 I.length).bind (gLa last) = none ∧ cGr S G' n L ∧ c157_43b r4 r43 f 93 u mo (t : Int) (i : Int) (S, G, m) = r43 93 u mo (t : Int) ((i + 1 : Nat) : Int) (S, G', m)) ∨ ∃ xs, (qMk I (gA : Int) v0 I.length).bind (gLa last) = some xs ∧ ((∃ i', i' < L.length ∧ (L.getD i' dRw).1 = xs ∧ cGr S G' n (L.set i' (xs, qCo kk (L.getD i' dRw).2 (gXv kk (gO : Int) v0))) ∧ c157_43b r4 r43 f 93 u mo (t : Int) (i : Int) (S, G, m) = r43 93 u mo (t : Int) ((i + 1 : Nat) : Int) (S, G', m)) ∨ ((∀ y ∈ L, y.1 ≠ xs) ∧ ∃ i', i' ≤ L.length ∧ (∀ j, j < i' → vLt (L.getD j dRw).1 xs) ∧ (∀ j, i' ≤ j → j < L.length → vLt xs (L.getD j dRw).1) ∧ cGr S G' n ((L.take i' ++ (xs, gXv kk (gO : Int) v0) :: L.drop i').take 512) ∧ c157_43b r4 r43 f 93 u mo (t : Int) (i : Int) (S, G, m) = if L.length = 512 then (if kk = 2 then r43 93 u 1 (t : Int) ((i + 1 : Nat) : Int) (S, G', m) else some (0, (S, G', m))) else r43 93 u mo (t : Int) ((i + 1 : Nat) : Int) (S, G', m)))) := by
          intro q1 q2
          obtain ⟨v, G3, w1, w2, w3, w4⟩ := k_159 (f := f) (m := m) (x := gXv kk (gO : Int) v0) (by omega) hs ps2 us hu (by rw [z2 _ _ (by omega) (by omega)]; exact h4) hkk hn gr2 hL ly (fun c hc => y2 c (by omega)) hb hxr
          have h43 : G3 u 4 = kk + 9 := by rw [w2 _ _ (by omega) (by omega) (by omega) (by omega), z2 _ _ (by omega) (by omega)]; exact h4
          refine ⟨G3, k', ws2.hr hxp w3 (fun b j a1 a2 => w2 b j (by omega) (by omega) (by omega) (by omega)), wst2.hr (fun b j a1 a2 => w2 b j (by omega) (by omega) (by omega) (by omega)), by omega, fun b j a1 a2 => by rw [w2 b j (by omega) (by omega) (by omega) (by omega), z2 b j a1 (by omega)], .inr ⟨ys, q1, ?_⟩⟩
          rcases w4 with ⟨r1, i', r2, r3, r4'⟩ | ⟨r1, i', r2, r3, r4', r5, r6⟩
          · rw [r1] at w1
            exact .inl ⟨i', r2, r3, r4', q2.trans (st_157j hs us hm ei hmk w1 h43)⟩
          · refine .inr ⟨r1, i', r2, r3, r4', r6, q2.trans ?_⟩
            by_cases cl : L.length = 512
            · rw [if_pos cl] at r5
              rw [if_pos cl]
              rw [r5] at w1
              exact st_157k hs us hm ei w1 h43
            · rw [if_neg cl] at r5
              rw [if_neg cl]
              rw [r5] at w1
              exact st_157j hs us hm ei hmk w1 h43
        rcases la2 with ⟨l1, l2⟩ | ⟨zs, l1, l2, l3, l4⟩
        · subst l1 l2
          exact addg (by rw [y1]; rfl) (st1.trans st_157y)
        · subst l1
          have e8 := k_158 (f := f) (m := m) (by omega) hs ps2 hn ly l3 (fun c hc => y2 c (by omega)) l4
          have st2 := st1.trans (st_157f hs us l2 (by rw [z2 _ _ (by omega) (by omega), hI.1, hnI]) e8)
          have ef : fCmp (0, zs) (0, ys) = vCmp zs ys := by
            unfold fCmp
            rw [if_pos rfl, if_pos (by show zs.length = ys.length; omega)]
          by_cases cv : vCmp zs ys < 0
          · rw [if_pos cv] at st2
            refine addg ?_ (st2.trans st_157i)
            rw [y1, Option.bind_some]
            show (if fCmp (0, zs) (0, ys) < 0 then some ys else none) = some ys
            rw [ef, if_pos cv]
          · rw [if_neg cv] at st2
            refine skip ?_ (st2.trans (st_157g ei))
            rw [y1, Option.bind_some]
            show (if fCmp (0, zs) (0, ys) < 0 then some ys else none) = none
            rw [ef, if_neg cv]
      · subst b0
        exact skip (by rw [y1]; rfl) (st1.trans (st_157m ei))
end
