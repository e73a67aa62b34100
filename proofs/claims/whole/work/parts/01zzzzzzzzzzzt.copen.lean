/-! THE CLASS: open(), and what comes of it -/
def c130a (f : Nat) (a0 : Nat) (R135 : (xT_)) : Option (xT_) := ((cq_gr 9 2 14 (a0) R135).bind fun v140 => ((c382 f (v140) (1700) R135).bind fun R142 => (some R142)))
theorem c130a_e (f : Nat) (a0 : Nat) (a1 : Nat) (a2 : Nat) (a3 : Int) (T : xT_) : c130 f a0 a1 a2 a3 T = ((cq_pr 9 3 14 (a0) (a1) T).bind fun T102 => ((cq_pr 9 4 14 (a0) (a2) T102).bind fun T107 => ((cq_pb 9 5 14 (a0) (a3) T107).bind fun T112 => ((cq_p 9 6 14 (a0) (0) T112).bind fun T117 => ((cq_pb 9 7 14 (a0) (1) T117).bind fun T122 => ((cq_gr 9 8 14 (a0) T122).bind fun v126 => ((cq_s 3 (v126) (0) (0) T122).bind fun T129 => ((cq_gr 9 1 14 (a0) T129).bind fun v133 => ((c382 f (v133) (0) T129).bind fun R135 => c130a f a0 R135))))))))) := rfl
section
variable {u fa fn np nv a b : Nat} {S : Nat → Nat × Nat × Nat} {G : xG_} {K : pCd} {Ls : List pLt} {pl : List Nat} {br : Int} {qn xp cp : Nat → Nat} {R : Nat → List pRw} {lo hi : Nat → Int} {vl : Nat → Int}
theorem cWE.ws (h : cWE S G u K Ls pl fa fn np nv a br qn xp cp R lo hi) : wsC Ls nv R := by
  intro l hl
  obtain ⟨_, b1, ⟨c1, c2, c3⟩, _, e1, _⟩ := h
  have hm : Ls.getD l dLt ∈ Ls := by rw [getD_e hl]; exact List.getElem_mem hl
  obtain ⟨w1, w2⟩ := c2 _ hm
  rcases w1 with ⟨q1, q2, q3, q4, q5, q6⟩ | ⟨q1, q2, q3, q4⟩
  · left
    obtain ⟨w3, w4⟩ := w2 (by omega)
    obtain ⟨p, hp⟩ : ∃ p : Nat, (Ls.getD l dLt).2.1 = (p : Int) := ⟨(Ls.getD l dLt).2.1.toNat, by omega⟩
    rw [hp, Int.toNat_natCast] at w4 ⊢
    obtain ⟨_, _, z3, z4, _, _⟩ := e1 p (by omega)
    refine ⟨q1, q6, z4, fun r hr => ?_⟩
    obtain ⟨j, hj, ej⟩ := List.getElem_of_mem hr
    have := (z3.2.2.2.2.2.2.2 j hj).1
    rw [getD_e hj, ej] at this
    omega
  · right
    refine ⟨q1, q3, q4, ?_⟩
    rcases b1.2.2.2.1.2.2 l hl with ⟨z, _⟩ | ⟨_, _, z, _⟩
    · have z' : (Ls.getD l dLt).1 = 1 ∨ (Ls.getD l dLt).1 = 2 := z
      omega
    · exact z
theorem full_pl {n : Nat} {pl : List Nat} (h1 : pl.length = n) (h2 : ∀ k, k < n → pl.getD k 0 < n) (h3 : pl.Nodup) : ∀ l, l < n → l ∈ pl := by
  intro l hl
  refine Classical.byContradiction (fun hn => ?_)
  have hsub : ∀ x ∈ pl, x ∈ (List.range n).erase l := fun x hx => by
    obtain ⟨k, hk, ek⟩ := List.getElem_of_mem hx
    have := h2 k (by omega)
    rw [getD_e hk, ek] at this
    rw [List.Nodup.mem_erase_iff List.nodup_range]
    exact ⟨fun q => hn (q ▸ hx), List.mem_range.mpr this⟩
  have hle := nodup_len pl _ h3 hsub
  rw [List.length_erase_of_mem (List.mem_range.mpr hl), List.length_range] at hle
  omega
/-- all VARIABLES are bound behind the plan -/
theorem mkP_full (hw : ∀ y ∈ Ls, wLv nv y) (hs : sfe Ls nv) (hpl : ∀ l, l < Ls.length → l ∈ pl) : ∀ k, k < nv → (mkP Ls pl b).testBit k = true := by
  intro k hk
  have sub : ∀ y ∈ Ls, qSub (qLv y) (mkP Ls pl b) := fun y hy => by
    obtain ⟨l, hl, el⟩ := List.getElem_of_mem hy
    refine qSub_t.mpr (fun j hj => (mkP_in pl b).mpr (.inr ⟨l, hpl l hl, ?_⟩))
    rw [getD_e hl, el]; exact hj
  refine qBd_in (qSt_id (fun y hy => qS1_in (hw y hy) (sub y hy))) (qA_sub (fun y hy h1 => ?_)) k (hs k hk)
  have := sub y hy
  rw [qT_lv (by omega)] at this
  exact this
/-- how many WAYS there may be -/
def wyN (Ls : List pLt) : List Nat → Nat
  | [] => 1
  | p :: pr => (if (Ls.getD p dLt).1 = 1 then 100 else 1) * wyN Ls pr
theorem chs_len {p : Nat} {pr : List Nat} {b : Nat} {vl : Nat → Int} {D : List (Nat → Int)} (hR : (Ls.getD p dLt).1 = 1 → (R (Ls.getD p dLt).2.1.toNat).length ≤ 100) (h : chs Ls a br R lo hi p pr b vl D) : D.length ≤ (if (Ls.getD p dLt).1 = 1 then 100 else 1) := by
  rcases h with ⟨h1, D0, h2, h3, h4⟩ | ⟨h1, h2, h3⟩ | ⟨h1, h2, h3⟩
  · rw [if_pos h1]
    have hl := h2.len
    have := hR h1
    by_cases cm : mre Ls a br (Ls.getD p dLt) pr b
    · rw [h3 cm, List.length_map]; omega
    · rw [h4 cm, List.length_map, List.length_take]; omega
  · rw [if_neg (by omega)]
    by_cases cn : ∀ j, j < (R (Ls.getD p dLt).2.1.toNat).length → fitR (Ls.getD p dLt).2.2.2.1 (lo p) (hi p) b vl ((R (Ls.getD p dLt).2.1.toNat).getD j dRw) = none
    · rw [h2 cn]; exact Nat.le_refl _
    · rw [h3 cn]; exact Nat.zero_le _
  · rw [if_neg (by omega)]
    cases hc : cmpV (Ls.getD p dLt) b vl with
    | none => rw [h3 hc]; exact Nat.zero_le _
    | some z => rw [h2 z.1 z.2 hc]; exact Nat.le_refl _
theorem wyS_len {P : (Nat → Int) → List (Nat → Int) → Nat → Prop} {B : Nat} (hP : ∀ d V k, P d V k → V.length ≤ B) : ∀ {D V : List (Nat → Int)} {k : Nat}, wyS P D V k → V.length ≤ D.length * B
  | [], V, k, h => by
    obtain ⟨rfl, _⟩ := wyS_n h
    exact Nat.zero_le _
  | d :: D, V, k, h => by
    obtain ⟨V1, k1, V2, k2, h1, h2, rfl, _⟩ := wyS_c h
    have e1 := hP d V1 k1 h1
    have e2 := wyS_len hP h2
    rw [List.length_append, List.length_cons, Nat.succ_mul]
    omega
theorem wyE_len (hR : ∀ p, p < Ls.length → (Ls.getD p dLt).1 = 1 → (R (Ls.getD p dLt).2.1.toNat).length ≤ 100) : ∀ (pr : List Nat) (b : Nat) (vl : Nat → Int) (V : List (Nat → Int)) (k : Nat), (∀ p ∈ pr, p < Ls.length) → wyE Ls a br R lo hi pr b vl V k → V.length ≤ wyN Ls pr
  | [], b, vl, V, k, _, h => by
    obtain ⟨rfl, _⟩ : V = [vl] ∧ k = 1 := h
    exact Nat.le_refl _
  | p :: pr, b, vl, V, k, hp, h => by
    obtain ⟨D, k', h1, h2, _⟩ := h
    have e1 := wyS_len (B := wyN Ls pr) (fun d V1 k1 e => wyE_len hR pr _ d V1 k1 (fun q hq => hp q (List.mem_cons_of_mem _ hq)) e) h2
    exact Nat.le_trans e1 (Nat.mul_le_mul_right _ (chs_len (hR p (hp p List.mem_cons_self)) h1))
theorem wyN_le : ∀ (pr : List Nat) (c : Nat), (pr.filter (fun p => decide ((Ls.getD p dLt).1 = 1))).length ≤ c → wyN Ls pr ≤ 100 ^ c
  | [], c, _ => Nat.pow_pos (by decide)
  | p :: pr, c, h => by
    show (if (Ls.getD p dLt).1 = 1 then 100 else 1) * wyN Ls pr ≤ _
    by_cases q : (Ls.getD p dLt).1 = 1
    · rw [List.filter_cons_of_pos (by rw [decide_eq_true q]), List.length_cons] at h
      obtain ⟨c, rfl⟩ : ∃ s, c = s + 1 := ⟨c - 1, by omega⟩
      rw [if_pos q, Nat.pow_succ, Nat.mul_comm]
      exact Nat.mul_le_mul_right _ (wyN_le pr c (by omega))
    · rw [List.filter_cons_of_neg (by rw [decide_eq_false q]; decide)] at h
      rw [if_neg q, Nat.one_mul]
      exact wyN_le pr c h
/-- the WAYS that come of open() -/
theorem ways_start (h : cWE S G u K Ls pl fa fn np nv a br qn xp cp R lo hi) (h6 : G 83 6 = 0) (h7 : G 83 7 = 1) (hlv : lvE G 0 b vl) (hat : pAtoms Ls ≤ 3) (hs : sfe Ls nv) (hnd : pl.Nodup) {d : Nat} (hpB : plB Ls pl 0 = some d) : ∃ V k Bf, k ≤ 100000000 ∧ V.length ≤ 1000000 ∧ wSt8 Ls pl a br R lo hi G Bf V k ∧ (∀ j, j < nv → Bf.testBit j = true) ∧ (∀ v ∈ V, (∀ j, b.testBit j = true → v j = vl j) ∧ ∀ l, l < Ls.length → litO Ls R lo hi l v) ∧ (br = 0 → V.Pairwise (dfO Bf) ∧ ∀ w, (∀ j, b.testBit j = true → w j = vl j) → (∀ l, l < Ls.length → litO Ls R lo hi l w) → ∃ v ∈ V, ∀ j, Bf.testBit j = true → v j = w j) ∧ (br ≠ 0 → ∀ w, (∀ j, b.testBit j = true → w j = vl j) → (∀ l, l < Ls.length → litO Ls R lo hi l w) → ∃ v ∈ V, ∀ j, Bf.testBit j = true → a.testBit j = true → v j = w j) := by
  have hC := h.ws
  have hnl := nl_eq h
  have hl8 := h.2.1.2.2.2.1.2.1
  have hd2 := h.2.2.2.1.2
  have hlt : ∀ p ∈ pl, p < Ls.length := fun p hp => by
    obtain ⟨k, hk, ek⟩ := List.getElem_of_mem hp
    have := (hd2 k (by omega)).2.1
    rw [getD_e hk, ek] at this
    exact this
  have hall : ∀ l, l < Ls.length → l ∈ pl := full_pl hnl (fun k hk => (hd2 k hk).2.1) hnd
  have hok : okP Ls pl b := okP_of pl 0 b d hpB (by show 0 ||| b = b; rw [Nat.zero_or])
  obtain ⟨V, k, e1, e2⟩ := wyE_ex (Ls := Ls) (a := a) (br := br) (R := R) (lo := lo) (hi := hi) (fun p hp => by
    rcases hC p hp with ⟨c1, c2, c3, c4⟩ | ⟨c1, _⟩
    · refine ⟨by omega, .inl ?_⟩
      have hm : Ls.getD p dLt ∈ Ls := by rw [getD_e hp]; exact List.getElem_mem hp
      obtain ⟨w1, w2⟩ := h.2.2.1.2.1 _ hm
      obtain ⟨w3, _⟩ := w2 (by omega)
      have hpn : (Ls.getD p dLt).2.1.toNat < np := by
        rcases w1 with ⟨_, _, z, _⟩ | ⟨z, _⟩
        · omega
        · omega
      exact (h.2.2.2.2.1 _ hpn).2.2.2.2.1
    · exact ⟨by omega, .inr c1⟩) pl hlt b vl
  have hRl : ∀ p, p < Ls.length → (Ls.getD p dLt).1 = 1 → (R (Ls.getD p dLt).2.1.toNat).length ≤ 100 := fun p hp h1 => by
    have hm : Ls.getD p dLt ∈ Ls := by rw [getD_e hp]; exact List.getElem_mem hp
    obtain ⟨w1, w2⟩ := h.2.2.1.2.1 _ hm
    obtain ⟨w3, _⟩ := w2 (by omega)
    have hpn : (Ls.getD p dLt).2.1.toNat < np := by
      rcases w1 with ⟨_, _, z, _⟩ | ⟨z, _⟩
      · omega
      · omega
    exact (h.2.2.2.2.1 _ hpn).2.2.2.2.1
  have hcost : k ≤ 100000000 ∧ V.length ≤ 1000000 := by
    have hf3 : (pl.filter (fun p => decide ((Ls.getD p dLt).1 = 1))).length ≤ 3 := by
      have hperm : pl.Perm (List.range Ls.length) := by
        refine (List.perm_ext_iff_of_nodup hnd List.nodup_range).mpr (fun x => ⟨fun hx => List.mem_range.mpr (hlt x hx), fun hx => hall x (List.mem_range.mp hx)⟩)
      rw [(hperm.filter _).length_eq]
      have er : Ls = (List.range Ls.length).map (fun p => Ls.getD p dLt) := by
        refine List.ext_getElem (by rw [List.length_map, List.length_range]) (fun i i1 i2 => ?_)
        rw [List.getElem_map, List.getElem_range, getD_e i1]
      have ep : pAtoms Ls = ((List.range Ls.length).filter (fun p => decide ((Ls.getD p dLt).1 = 1))).length := by
        have e0 : pAtoms Ls = pAtoms ((List.range Ls.length).map (fun p => Ls.getD p dLt)) := congrArg pAtoms er
        rw [e0]
        unfold pAtoms
        rw [List.filter_map, List.length_map]
        rfl
      omega
    have hb := wyB_le (Ls := Ls) pl 8 3 (by omega) hf3
    have : (3 * 8 + 1) * 101 ^ 3 ≤ 100000000 := by decide
    have hn := wyE_len hRl pl b vl V k hlt e1
    have hn2 := wyN_le (Ls := Ls) pl 3 hf3
    have : (100 : Nat) ^ 3 = 1000000 := by decide
    omega
  refine ⟨V, k, mkP Ls pl b, hcost.1, hcost.2, wSt_0 h6 h7 hlv hok e1, mkP_full (fun y hy => (h.2.2.1.2.1 y hy).1.lv) hs hall, fun v hv => ?_, fun hb0 => ⟨?_, fun w w1 w2 => ?_⟩, fun hb1 w w1 w2 => ?_⟩
  · obtain ⟨q1, q2⟩ := wy_snd hC pl b vl V k hlt hok e1 v hv
    exact ⟨q1, fun l hl => q2 l (hall l hl)⟩
  · rw [hb0] at e1
    exact wy_uni hC pl b vl V k hlt hok e1
  · obtain ⟨v, v1, v2⟩ := wy_cmp hC (fun _ => True) (fun q => absurd hb0 q) (fun _ _ => trivial) pl b vl V k w hlt hok e1 (fun j hj _ => w1 j hj) (fun p hp => w2 p (hlt p hp))
    exact ⟨v, v1, fun j hj => v2 j hj trivial⟩
  · obtain ⟨v, v1, v2⟩ := wy_cmp hC (fun j => a.testBit j = true) (fun _ _ => Iff.rfl) (fun q => absurd q hb1) pl b vl V k w hlt hok e1 (fun j hj _ => w1 j hj) (fun p hp => w2 p (hlt p hp))
    exact ⟨v, v1, v2⟩
end
section
variable {f u fa fn z x n i : Nat} {S : Nat → Nat × Nat × Nat} {G : xG_} {m : Nat × Nat} {v br : Int} {r5 : Nat → Int → Int → Int → xT_ → Option (xT_)}
theorem st_382 (hi : i < n) (xs : S x = (2, 3, n)) (ei : xwr ((i : Int) + 1) = ((i + 1 : Nat) : Int)) : c382_5b r5 f x v (i : Int) (n : Int) (S, G, m) = r5 x v ((i + 1 : Nat) : Int) (n : Int) (S, xup2 G x i v, m) := by
  unfold c382_5b
  simp (disch := omega) only [cq_gi, cq_gr, cq_a, cq_s, cq_p, cq_pr, cq_is, cq_ar, cq_ab, cq_ln, xq_nz, Option.bind_some, xup2_n, xup2_s, Int.toNat_natCast, Int.reduceToNat, if_pos, if_neg, true_and, and_true, and_self, eq_self, if_true, reduceIte, not_true_eq_false, not_false_eq_true, or_true, true_or, xs, ei]
theorem st_382z : c382_5b r5 f x v (n : Int) (n : Int) (S, G, m) = some (S, G, m) := by
  unfold c382_5b
  rw [if_pos (Int.le_refl _)]
/-- Arrays.fill() of ints -/
theorem k_382 (hf : n < f) (hn : n ≤ 1000) (xs : S x = (2, 3, n)) : ∃ G', c382 f x v (S, G, m) = some (S, G', m) ∧ (∀ a j, a ≠ x → G' a j = G a j) ∧ ∀ j, j < n → G' x j = v := by
  have loop : ∀ (d i fu : Nat) (G : xG_), i + d = n → d < fu → (∀ j, j < i → G x j = v) → ∃ G', c382_5 f fu x v (i : Int) (n : Int) (S, G, m) = some (S, G', m) ∧ (∀ a j, a ≠ x → G' a j = G a j) ∧ ∀ j, j < n → G' x j = v := by
    intro d
    induction d with
    | zero =>
      intro i fu G e1 e2 e3
      obtain ⟨fu, rfl⟩ : ∃ t, fu = t + 1 := ⟨fu - 1, by omega⟩
      have : i = n := by omega
      subst this
      exact ⟨G, st_382z (r5 := c382_5 f fu), fun _ _ _ => rfl, e3⟩
    | succ d ih =>
      intro i fu G e1 e2 e3
      obtain ⟨fu, rfl⟩ : ∃ t, fu = t + 1 := ⟨fu - 1, by omega⟩
      have st : c382_5 f (fu + 1) x v (i : Int) (n : Int) (S, G, m) = _ := st_382 (r5 := c382_5 f fu) (by omega) xs (by rw [xwr_g _ (by omega) (by omega)]; omega)
      obtain ⟨G', g1, g2, g3⟩ := ih (i + 1) fu (xup2 G x i v) (by omega) (by omega) (fun j hj => by
        by_cases c : j = i
        · rw [c, xup2_s]
        · rw [xup2_n (by omega)]; exact e3 j (by omega))
      exact ⟨G', st.trans g1, fun a j y => by rw [g2 a j y, xup2_n (by omega)], g3⟩
  obtain ⟨G', g1, g2, g3⟩ := loop n 0 f G (by omega) (by omega) (fun j hj => absurd hj (Nat.not_lt_zero j))
  refine ⟨G', ?_, g2, g3⟩
  unfold c382
  simp (disch := omega) only [cq_gi, cq_gr, cq_a, cq_s, cq_p, cq_pr, cq_is, cq_ar, cq_ab, cq_ln, xq_nz, Option.bind_some, xup2_n, xup2_s, Int.toNat_natCast, Int.reduceToNat, if_pos, if_neg, true_and, and_true, and_self, eq_self, if_true, reduceIte, not_true_eq_false, not_false_eq_true, or_true, true_or, xs]
  exact g1
theorem st_130 {T : xT_} (hs : cSs S) (hp : cPs G) (hb : br = 0 ∨ br = 1) (e : c382 f 85 0 (S, xup2 (xup2 (xup2 (xup2 (xup2 (xup2 G 83 3 (u : Int)) 83 4 (fa : Int)) 83 5 br) 83 6 0) 83 7 1) 87 0 0, m) = some T) : c130 f 83 u fa br (S, G, m) = c130a f 83 T := by
  rw [c130a_e]
  have e1 : ∀ {G : xG_}, cq_pb 9 5 14 83 br (S, G, m) = some (S, xup2 G 83 5 br, m) := fun {G} => if_pos ⟨s83 hs, hb⟩
  have e2 : ∀ {G : xG_}, cq_pb 9 7 14 83 1 (S, G, m) = some (S, xup2 G 83 7 1, m) := fun {G} => if_pos ⟨s83 hs, .inr rfl⟩
  simp (disch := omega) only [cq_gi, cq_gr, cq_a, cq_s, cq_p, cq_pr, cq_is, cq_ar, cq_ab, cq_ln, xq_nz, Option.bind_some, xup2_n, xup2_s, Int.toNat_natCast, Int.reduceToNat, if_pos, if_neg, true_and, and_true, and_self, eq_self, if_true, reduceIte, not_true_eq_false, not_false_eq_true, or_true, true_or, s83 hs, s87 hs, p83_8 hp, p83_1 hp, e1, e2, e]
theorem st_130a (hs : cSs S) (hp : cPs G) {T : xT_} (e : c382 f 86 1700 (S, G, m) = some T) : c130a f 83 (S, G, m) = some T := by
  unfold c130a
  simp (disch := omega) only [cq_gi, cq_gr, cq_a, cq_s, cq_p, cq_pr, cq_is, cq_ar, cq_ab, cq_ln, xq_nz, Option.bind_some, xup2_n, xup2_s, Int.toNat_natCast, Int.reduceToNat, if_pos, if_neg, true_and, and_true, and_self, eq_self, if_true, reduceIte, not_true_eq_false, not_false_eq_true, or_true, true_or, s83 hs, p83_2 hp, e]
/-- open() -/
theorem k_130 (hf : 20 < f) (hs : cSs S) (hp : cPs G) (hb : br = 0 ∨ br = 1) : ∃ G', c130 f 83 u fa br (S, G, m) = some (S, G', m) ∧ (∀ a j, ¬ (a = 83 ∧ 3 ≤ j ∧ j ≤ 7) → a ≠ 85 → a ≠ 86 → ¬ (a = 87 ∧ j = 0) → G' a j = G a j) ∧ cPs G' ∧ G' 83 3 = (u : Int) ∧ G' 83 4 = (fa : Int) ∧ G' 83 5 = br ∧ G' 83 6 = 0 ∧ G' 83 7 = 1 ∧ G' 87 0 = 0 ∧ (∀ l, l < 8 → G' 85 l = 0) ∧ ∀ l, l < 8 → G' 86 l = 1700 := by
  obtain ⟨G0, hG0⟩ : ∃ G0, G0 = xup2 (xup2 (xup2 (xup2 (xup2 (xup2 G 83 3 (u : Int)) 83 4 (fa : Int)) 83 5 br) 83 6 0) 83 7 1) 87 0 0 := ⟨_, rfl⟩
  have z0 : ∀ a j, ¬ (a = 83 ∧ 3 ≤ j ∧ j ≤ 7) → ¬ (a = 87 ∧ j = 0) → G0 a j = G a j := fun a j y1 y2 => by rw [hG0, xup2_n (by omega), xup2_n (by omega), xup2_n (by omega), xup2_n (by omega), xup2_n (by omega), xup2_n (by omega)]
  have pst : ∀ {G1 : xG_}, (∀ a j, ¬ (a = 83 ∧ 3 ≤ j ∧ j ≤ 7) → ¬ (85 ≤ a ∧ a ≤ 87) → G1 a j = G a j) → cPs G1 := fun hf => hp.ge (fun a j hz => hf a j (by
    rcases hz with z | z | z | z | z | z | z | ⟨z, z1, z2, k, z3⟩ | z | z | z | ⟨k, z1, z2, z3⟩ <;> omega) (by
    rcases hz with z | z | z | z | z | z | z | ⟨z, z1, z2, k, z3⟩ | z | z | z | ⟨k, z1, z2, z3⟩ <;> omega))
  obtain ⟨G1, g1, g2, g3⟩ := k_382 (f := f) (m := m) (G := G0) (v := 0) (n := 8) (by omega) (by decide) (s85 hs)
  have e1 := st_130 (m := m) hs hp hb (by rw [← hG0]; exact g1)
  obtain ⟨G2, i1, i2, i3⟩ := k_382 (f := f) (m := m) (G := G1) (v := 1700) (n := 8) (by omega) (by decide) (s86 hs)
  have e2 := e1.trans (st_130a hs (pst (fun a j y1 y2 => by rw [g2 a j (by omega), z0 a j y1 (by omega)])) i1)
  have w : ∀ a j, a ≠ 85 → a ≠ 86 → G2 a j = G0 a j := fun a j y1 y2 => by rw [i2 a j y2, g2 a j y1]
  refine ⟨G2, e2, fun a j y1 y2 y3 y4 => by rw [w a j y2 y3, z0 a j y1 y4], pst (fun a j y1 y2 => by rw [w a j (by omega) (by omega), z0 a j y1 (by omega)]), ?_, ?_, ?_, ?_, ?_, ?_, fun l hl => by rw [i2 _ _ (by omega)]; exact g3 l hl, i3⟩
  · rw [w _ _ (by omega) (by omega), hG0, xup2_n (by omega), xup2_n (by omega), xup2_n (by omega), xup2_n (by omega), xup2_n (by omega), xup2_s]
  · rw [w _ _ (by omega) (by omega), hG0, xup2_n (by omega), xup2_n (by omega), xup2_n (by omega), xup2_n (by omega), xup2_s]
  · rw [w _ _ (by omega) (by omega), hG0, xup2_n (by omega), xup2_n (by omega), xup2_n (by omega), xup2_s]
  · rw [w _ _ (by omega) (by omega), hG0, xup2_n (by omega), xup2_n (by omega), xup2_s]
  · rw [w _ _ (by omega) (by omega), hG0, xup2_n (by omega), xup2_s]
  · rw [w _ _ (by omega) (by omega), hG0, xup2_s]
end
