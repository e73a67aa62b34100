/-! RINGS hang on values alone: RANKS of what is read don't matter -/
def vEq (l l' : List pRw) : Prop := l.map (·.1) = l'.map (·.1)
theorem vEq.mem {l l' : List pRw} (h : vEq l l') {r : pRw} (hr : r ∈ l) : ∃ r' ∈ l', r'.1 = r.1 := by
  have : r.1 ∈ l.map (·.1) := List.mem_map_of_mem hr
  rw [h] at this
  obtain ⟨r', a, b⟩ := List.mem_map.mp this
  exact ⟨r', a, b⟩
theorem isW_cv {l : List pLt} {nv : Nat} {R R' : Nat → List pRw} {v : List Int} (h : ∀ y ∈ l, y.1 ≠ 3 → vEq (R y.2.1.toNat) (R' y.2.1.toNat)) : isW l nv R qO1 v → isW l nv R' qO1 v := by
  rintro ⟨h1, h2, h3⟩
  refine ⟨h1, fun y hy c => ?_, fun y hy => ⟨fun c => ?_, (h3 y hy).2⟩⟩
  · obtain ⟨w, w1, _, w2⟩ := h2 y hy c
    obtain ⟨w', a1, a2⟩ := (h y hy (by omega)).mem w1
    exact ⟨w', a1, trivial, by rw [a2]; exact w2⟩
  · rintro ⟨w, w1, w2⟩
    obtain ⟨w', a1, a2⟩ := vEq.mem (h y hy (by omega)).symm w1
    exact (h3 y hy).1 c ⟨w', a1, by rw [a2]; exact w2⟩
theorem isW_cw {l : List pLt} {nv : Nat} {R R' : Nat → List pRw} {v : List Int} (h : ∀ y ∈ l, y.1 ≠ 3 → vEq (R y.2.1.toNat) (R' y.2.1.toNat)) : isW l nv R qO1 v ↔ isW l nv R' qO1 v := ⟨isW_cv h, isW_cv (fun y hy c => (h y hy c).symm)⟩
theorem rlD_cv {u : pRu} {R R' : Nat → List pRw} {xs : List Int} (h : ∀ y ∈ u.2.2.2.2.2, y.1 ≠ 3 → vEq (R y.2.1.toNat) (R' y.2.1.toNat)) : rlD u R xs ↔ rlD u R' xs := by
  unfold rlD
  by_cases c : qG u = 0
  · rw [if_pos c, if_pos c]
    constructor
    · rintro ⟨v, v1, v2⟩
      exact ⟨v, (isW_cw h).mp v1, v2⟩
    · rintro ⟨v, v1, v2⟩
      exact ⟨v, (isW_cw h).mpr v1, v2⟩
  · rw [if_neg c, if_neg c]
    have ha : ∀ V, isAll u.2.2.2.2.2 u.2.2.2.2.1.length R qO1 V ↔ isAll u.2.2.2.2.2 u.2.2.2.2.1.length R' qO1 V := fun V => by
      unfold isAll
      constructor
      · exact fun ⟨a, b⟩ => ⟨a, fun v => (b v).trans (isW_cw h)⟩
      · exact fun ⟨a, b⟩ => ⟨a, fun v => (b v).trans (isW_cw h).symm⟩
    unfold gDs
    constructor
    · rintro ⟨ks, V, v1, v2⟩
      exact ⟨ks, V, (ha V).mp v1, v2⟩
    · rintro ⟨ks, V, v1, v2⟩
      exact ⟨ks, V, (ha V).mpr v1, v2⟩
section
variable {s : pPg} {rg : Nat} {st : Int} {R R' R0 R0' : Nat → List pRw}
theorem stD_cv {rm p : Nat} {xs : List Int} (h1 : ∀ y, rgR s rg y → vEq (R y) (R' y)) (h2 : p < s.1.length → qK s p = rg → vEq (R p) (R' p)) (hp : p < s.1.length) : stD s rg st R rm p xs ↔ stD s rg st R' rm p xs := by
  have key : ∀ {R R' : Nat → List pRw}, (∀ y, rgR s rg y → vEq (R y) (R' y)) → (qK s p = rg → vEq (R p) (R' p)) → stD s rg st R rm p xs → stD s rg st R' rm p xs := by
    rintro R R' h1 h2 ⟨r, a1, a2, a3, a4, a5, a6, a7⟩
    have hm : s.2.2.2.2.1.getD r dRu ∈ s.2.2.2.2.1 := by rw [getD_e a2]; exact List.getElem_mem a2
    refine ⟨r, a1, a2, a3, a4, a5, (rlD_cv (fun y hy c => h1 _ ⟨_, hm, by rw [a3]; exact a4, y, hy, c, rfl⟩)).mp a6, fun w hw => ?_⟩
    obtain ⟨w', b1, b2⟩ := vEq.mem (h2 a4).symm hw
    rw [← b2]
    exact a7 w' b1
  exact ⟨key h1 (h2 hp), key (fun y hy => (h1 y hy).symm) (fun h => (h2 hp h).symm)⟩
theorem wkC_cv (hrd : ∀ y, rgR s rg y → y < s.1.length) (hs : ∀ p, p < s.1.length → (R0 p).Pairwise rwLt) (hs' : ∀ p, p < s.1.length → (R0' p).Pairwise rwLt) (hm : ∀ p, p < s.1.length → qK s p = rg → R0 p = R0' p) (h0 : ∀ p, p < s.1.length → rgR s rg p → vEq (R0 p) (R0' p)) : ∀ (n : Nat) (R : Nat → List pRw), wkC s rg R0 n R → ∃ R', wkC s rg R0' n R' ∧ (∀ p, p < s.1.length → qK s p = rg → R' p = R p) ∧ ∀ p, p < s.1.length → rgR s rg p → vEq (R' p) (R p)
  | 0, R, h => ⟨R0', fun _ _ => rfl, fun p hp hk => by rw [h p hp]; exact (hm p hp hk).symm, fun p hp hk => by rw [h p hp]; exact (h0 p hp hk).symm⟩
  | n + 1, R, h => by
    obtain ⟨R1, h1, ⟨p0, xs0, q1, q2⟩, h3⟩ := h
    obtain ⟨R1', k1, k2, k3⟩ := wkC_cv hrd hs hs' hm h0 n R1 h1
    obtain ⟨a1, a2⟩ := wkC_out hs n R1 h1
    obtain ⟨b1, b2⟩ := wkC_out hs' n R1' k1
    have hst : ∀ rm p xs, p < s.1.length → (stD s rg ((n + 1 : Nat) : Int) R1 rm p xs ↔ stD s rg ((n + 1 : Nat) : Int) R1' rm p xs) := fun rm p xs hp => stD_cv (fun y hy => (k3 y (hrd y hy) hy).symm) (fun hp hk => by rw [k2 p hp hk]; rfl) hp
    let R' : Nat → List pRw := fun p => if qK s p = rg then R p else R1' p
    have eo : ∀ p, qK s p = rg → R' p = R p := fun p hk => if_pos hk
    have en : ∀ p, qK s p ≠ rg → R' p = R1' p := fun p hk => if_neg hk
    refine ⟨R', ⟨R1', k1, ⟨p0, xs0, q1, (hst _ _ _ q1).mp q2⟩, fun p hp => ?_⟩, fun p hp hk => eo p hk, fun p hp hk => ?_⟩
    · by_cases c : qK s p = rg
      · rw [eo p c]
        obtain ⟨w1, w2⟩ := h3 p hp
        refine ⟨w1, fun y => ?_⟩
        rw [w2, k2 p hp c, hst _ _ _ hp]
      · rw [en p c]
        refine ⟨b1 p hp, fun y => ⟨.inl, ?_⟩⟩
        rintro (q | ⟨_, r, _, _, _, q, _⟩)
        · exact q
        · exact absurd q c
    · by_cases c : qK s p = rg
      · rw [eo p c]; rfl
      · rw [en p c, lv_out h3 hp c (a1 p hp)]; exact k3 p hp hk
theorem wkC_xt : ∀ (n : Nat), (∀ p, p < s.1.length → R p = R' p) → wkC s rg R0 n R → wkC s rg R0 n R'
  | 0, he, h => fun p hp => by rw [← he p hp]; exact h p hp
  | n + 1, he, h => by
    obtain ⟨R1, h1, h2, h3⟩ := h
    exact ⟨R1, h1, h2, fun p hp => by rw [← he p hp]; exact h3 p hp⟩
theorem wkE_xt (hw : wPg s) (he : ∀ p, p < s.1.length → R p = R' p) (h : wkE s rg R0 R) : wkE s rg R0 R' := by
  obtain ⟨n, h1, h2⟩ := h
  exact ⟨n, wkC_xt n he h1, fun p xs hp hst => h2 p xs hp ((stD_cg (fun y hy => he y (rgR_lt hw hy)) (fun hp _ => he p hp) hp).mpr hst)⟩
/-- the rows of a RING stay right where what it reads has the same values -/
theorem dnR_cv (hw : wPg s) (hT : qTb s R) (hT' : qTb s R') (hm : ∀ p, p < s.1.length → qK s p = rg → R p = R' p) (hr : ∀ p, p < s.1.length → rgR s rg p → qK s p ≠ rg → vEq (R p) (R' p)) (h : dnR s R rg) : dnR s R' rg := by
  obtain ⟨R0, c1, c2, n, c3, c4⟩ := h
  let R0' : Nat → List pRw := fun p => if qK s p = rg then [] else R' p
  have e1 : ∀ p, p < s.1.length → qK s p ≠ rg → R0' p = R' p := fun p _ hk => if_neg hk
  have e2 : ∀ p, p < s.1.length → qK s p = rg → R0' p = [] := fun p _ hk => if_pos hk
  have hs' := dnR.srt hT' e1 e2
  obtain ⟨R2, k1, k2, k3⟩ := wkC_cv (fun y hy => rgR_lt hw hy) (dnR.srt hT c1 c2) hs' (fun p hp hk => by rw [c2 p hp hk, e2 p hp hk]) (fun p hp hy => by
    by_cases c : qK s p = rg
    · rw [c2 p hp c, e2 p hp c]; rfl
    · rw [c1 p hp c, e1 p hp c]; exact hr p hp hy c) n R c3
  have ho := (wkC_out hs' n R2 k1).2
  have he : ∀ p, p < s.1.length → R2 p = R' p := fun p hp => by
    by_cases c : qK s p = rg
    · rw [k2 p hp c, hm p hp c]
    · rw [ho p hp c, e1 p hp c]
  refine ⟨R0', e1, e2, n, wkC_xt n he k1, fun p xs hp hst => c4 p xs hp ((stD_cv (fun y hy => ?_) (fun hp hk => ?_) hp).mpr hst)⟩
  · by_cases c : qK s y = rg
    · rw [hm y (rgR_lt hw hy) c]; rfl
    · exact hr y (rgR_lt hw hy) hy c
  · rw [hm p hp hk]; rfl
end
/-! THE CLASS: noteChanged() -/
/-- the rows of the same NAME and n ahead of the round -/
def cAh (S : Nat → Nat × Nat × Nat) (G : xG_) (nx : Nat) (s : pPg) (yp ap : Nat → Nat) (A : Nat → List pRw) : Prop := ∀ p, p < s.1.length → G 95 p = ((yp p : Nat) : Int) ∧ (203 < yp p ∧ yp p + 2 < nx) ∧ cRw S G (yp p) (qN s p) (ap p) (A p)
section
variable {f q nx r n rg p x y : Nat} {S : Nat → Nat × Nat × Nat} {G G' : xG_} {m : Nat × Nat} {s : pPg} {xp cp yp ap : Nat → Nat} {R A : Nat → List pRw} {ch : Nat} {b : Bool} {w : Nat} {r237 : Nat → Int → Int → xT_ → Option (Int × xT_)} {T : xT_} {np : Nat}
theorem cAh.ge (h : cAh S G nx s yp ap A) (h95 : ∀ j, G' 95 j = G 95 j) (hg : ∀ a j, 203 < a → G' a j = G a j) : cAh S G' nx s yp ap A := fun p hp => by
  obtain ⟨a1, a2, a3⟩ := h p hp
  exact ⟨by rw [h95]; exact a1, a2, a3.ge (fun _ _ _ => rfl) (fun j => hg _ _ (by omega)) (fun j => hg _ _ (by omega)) (fun j => hg _ _ (by omega))⟩
theorem st_nc (hs : cSs S) (hp : cPs G) (hp16 : p < 16) (h13 : G 93 13 = (ch : Int)) (hch : ch < 2 ^ 16) (h94 : G 94 p = (x : Int)) (h95 : G 95 p = (y : Int)) (xs : S x = (1, 5, 4)) (e : c81 f x y (S, G, m) = some (b01 b, (S, G, m))) : c148 f 93 (p : Int) (S, G, m) = some (S, xup2 G 93 13 ((if b = true then ch else ch ||| 2 ^ p : Nat) : Int), m) := by
  cases b with
  | true =>
    have e0 : b01 true = 1 := rfl
    rw [e0] at e
    have e1 : xor_ (ch : Int) 0 = (ch : Int) := xor_0 (by omega)
    rw [if_pos rfl]
    unfold c148 c148_30
    simp (disch := omega) only [cq_gi, cq_gr, cq_a, cq_s, cq_p, cq_pr, cq_is, cq_ar, cq_ab, cq_ln, xq_nz, Option.bind_some, xup2_n, xup2_s, Int.toNat_natCast, Int.reduceToNat, if_pos, if_neg, true_and, and_true, and_self, eq_self, if_true, reduceIte, not_true_eq_false, not_false_eq_true, or_true, true_or, s93 hs, s94 hs, s95 hs, p93_2 hp, p93_3 hp, h13, h94, h95, xs, e, e1, Int.reduceEq]
  | false =>
    have e0 : b01 false = 0 := rfl
    rw [e0] at e
    have e1 : xor_ (ch : Int) (xshl 1 (p : Int)) = ((ch ||| 2 ^ p : Nat) : Int) := xorb (by omega) (by omega)
    rw [if_neg (by decide)]
    unfold c148 c148_30
    simp (disch := omega) only [cq_gi, cq_gr, cq_a, cq_s, cq_p, cq_pr, cq_is, cq_ar, cq_ab, cq_ln, xq_nz, Option.bind_some, xup2_n, xup2_s, Int.toNat_natCast, Int.reduceToNat, if_pos, if_neg, true_and, and_true, and_self, eq_self, if_true, reduceIte, not_true_eq_false, not_false_eq_true, or_true, true_or, s93 hs, s94 hs, s95 hs, p93_2 hp, p93_3 hp, h13, h94, h95, xs, e, e1]
theorem ps_13 {v : Int} {k : Nat} (hk : k = 13 ∨ k = 14) (hp : cPs G) : cPs (xup2 G 93 k v) := hp.ge (fun b j hz => xup2_n (by
  rcases hz with z | z | z | z | z | z | z | ⟨z, z1, z2, k, z3⟩ | z | z | z | ⟨k, z1, z2, z3⟩ <;> omega))
/-- noteChanged() -/
theorem k_nc (hf : 600 < f) (h : cWk S G q nx s xp cp R) (hA : cAh S G nx s yp ap A) (hp : p < s.1.length) (h13 : G 93 13 = (ch : Int)) (hch : ch < 2 ^ 16) : ∃ ch' : Nat, ch' < 2 ^ 16 ∧ c148 f 93 (p : Int) (S, G, m) = some (S, xup2 G 93 13 (ch' : Int), m) ∧ ∀ j, ch'.testBit j = true ↔ ch.testBit j = true ∨ (j = p ∧ ¬ vEq (R p) (A p)) := by
  obtain ⟨b1, b2, b3, _⟩ := h.2 p hp
  obtain ⟨a1, a2, a3⟩ := hA p hp
  obtain ⟨b, k1, k2⟩ := k_81 (f := f) (m := m) hf b3 a3
  have hnp : s.1.length ≤ 16 := h.1.2.2.2.2.2.1.1.1
  refine ⟨if b = true then ch else ch ||| 2 ^ p, ?_, st_nc h.1.1 h.1.2.1 (by omega) h13 hch b1 a1 b3.1 k1, fun j => ?_⟩
  · split
    · exact hch
    · exact or_lt hch (by omega)
  · by_cases c : b = true
    · rw [if_pos c]
      exact ⟨.inl, fun y => y.elim id (fun y => absurd (k2.mp c) y.2)⟩
    · rw [if_neg c, Nat.testBit_or, Bool.or_eq_true, Nat.testBit_two_pow, decide_eq_true_iff]
      exact or_congr Iff.rfl ⟨fun y => ⟨y.symm, fun e => c (k2.mpr e)⟩, fun y => y.1.symm⟩
theorem st_237z (hs : cSs S) (h1 : G 93 1 = (q : Int)) (qs : S q = (1, 3, 14)) (hn : G q 1 = (np : Int)) : c149_237b r237 f 93 (rg : Int) (np : Int) (S, G, m) = some (1, (S, G, m)) := by
  unfold c149_237b
  simp (disch := omega) only [cq_gi, cq_gr, cq_a, cq_s, cq_p, cq_pr, cq_is, cq_ar, cq_ab, cq_ln, xq_nz, Option.bind_some, xup2_n, xup2_s, Int.toNat_natCast, Int.reduceToNat, if_pos, if_neg, true_and, and_true, and_self, eq_self, if_true, reduceIte, not_true_eq_false, not_false_eq_true, or_true, true_or, s93 hs, h1, qs, hn]
theorem st_237n (hs : cSs S) (h1 : G 93 1 = (q : Int)) (qs : S q = (1, 3, 14)) (q8 : S (q + 8) = (2, 3, 16)) (h10 : G q 10 = ((q + 8 : Nat) : Int)) (hn : G q 1 = (np : Int)) (hn16 : np ≤ 16) (hp : p < np) (hk : G (q + 8) p = (w : Int)) (hne : w ≠ rg) (ep : xwr ((p : Int) + 1) = ((p + 1 : Nat) : Int)) : c149_237b r237 f 93 (rg : Int) (p : Int) (S, G, m) = r237 93 (rg : Int) ((p + 1 : Nat) : Int) (S, G, m) := by
  have hne' : ¬ (w : Int) = (rg : Int) := by omega
  unfold c149_237b c149_269
  simp (disch := omega) only [cq_gi, cq_gr, cq_a, cq_s, cq_p, cq_pr, cq_is, cq_ar, cq_ab, cq_ln, xq_nz, Option.bind_some, xup2_n, xup2_s, Int.toNat_natCast, Int.reduceToNat, if_pos, if_neg, true_and, and_true, and_self, eq_self, if_true, reduceIte, not_true_eq_false, not_false_eq_true, or_true, true_or, s93 hs, h1, qs, q8, h10, hn, hk, hne', ep]
theorem st_237y (hs : cSs S) (h1 : G 93 1 = (q : Int)) (qs : S q = (1, 3, 14)) (q8 : S (q + 8) = (2, 3, 16)) (h10 : G q 10 = ((q + 8 : Nat) : Int)) (hn : G q 1 = (np : Int)) (hn16 : np ≤ 16) (hp : p < np) (hk : G (q + 8) p = (rg : Int)) (ep : xwr ((p : Int) + 1) = ((p + 1 : Nat) : Int)) (e : c148 f 93 (p : Int) (S, G, m) = some T) : c149_237b r237 f 93 (rg : Int) (p : Int) (S, G, m) = r237 93 (rg : Int) ((p + 1 : Nat) : Int) T := by
  unfold c149_237b c149_269
  simp (disch := omega) only [cq_gi, cq_gr, cq_a, cq_s, cq_p, cq_pr, cq_is, cq_ar, cq_ab, cq_ln, xq_nz, Option.bind_some, xup2_n, xup2_s, Int.toNat_natCast, Int.reduceToNat, if_pos, if_neg, true_and, and_true, and_self, eq_self, if_true, reduceIte, not_true_eq_false, not_false_eq_true, or_true, true_or, s93 hs, h1, qs, q8, h10, hn, hk, ep, e]
theorem cWk.u93 {k : Nat} {v : Int} (h : cWk S G q nx s xp cp R) (hk : k = 13 ∨ k = 14) : cWk S (xup2 G 93 k v) q nx s xp cp R := h.ge (ps_13 hk h.1.2.1) (xup2_n (by omega)) (fun j => xup2_n (by omega)) (fun k hk b y1 y2 j => xup2_n (by omega)) (fun b j y => xup2_n (by omega))
/-- what a RING's rows have become -/
theorem k_237 (hf : 600 < f) : ∀ (d p fu : Nat) (G : xG_) (ch : Nat), p + d = s.1.length → d < fu → cWk S G q nx s xp cp R → cAh S G nx s yp ap A → G 93 13 = (ch : Int) → ch < 2 ^ 16 → ∃ ch' : Nat, ch' < 2 ^ 16 ∧ c149_237 f fu 93 (rg : Int) (p : Int) (S, G, m) = some (1, (S, xup2 G 93 13 (ch' : Int), m)) ∧ ∀ j, ch'.testBit j = true ↔ ch.testBit j = true ∨ (p ≤ j ∧ j < s.1.length ∧ qK s j = rg ∧ ¬ vEq (R j) (A j)) := by
  intro d
  induction d with
  | zero =>
    intro p fu G ch e1 e2 h hA h13 hch
    obtain ⟨fu, rfl⟩ : ∃ t, fu = t + 1 := ⟨fu - 1, by omega⟩
    have e : p = s.1.length := by omega
    subst e
    refine ⟨ch, hch, ?_, fun j => ⟨.inl, fun y => y.elim id (fun y => by omega)⟩⟩
    rw [xup2_id h13]
    exact st_237z (r237 := c149_237 f fu) h.1.1 h.1.2.2.1 h.1.2.2.2.2.1.1.1 h.1.2.2.2.2.1.2.2.1.1
  | succ d ih =>
    intro p fu G ch e1 e2 h hA h13 hch
    obtain ⟨fu, rfl⟩ : ∃ t, fu = t + 1 := ⟨fu - 1, by omega⟩
    have hnp : s.1.length ≤ 16 := h.1.2.2.2.2.2.1.1.1
    have ep : xwr ((p : Int) + 1) = ((p + 1 : Nat) : Int) := by rw [xwr_g _ (by omega) (by omega)]; omega
    have a5 := h.1.2.2.2.2.1
    have hq8 : G (q + 8) p = ((qK s p : Nat) : Int) := a5.2.2.2.2.2.2.2.1.1 p (by omega)
    by_cases c : qK s p = rg
    · obtain ⟨c1, k1, k2, k3⟩ := k_nc (f := f) (m := m) hf h hA (by omega : p < s.1.length) h13 hch
      have st : c149_237 f (fu + 1) 93 (rg : Int) (p : Int) (S, G, m) = _ := st_237y (r237 := c149_237 f fu) h.1.1 h.1.2.2.1 a5.1.1 a5.1.2.2.2.2.2.2.2.2.1 a5.2.1.2.2.2.2.2.2.2.1 a5.2.2.1.1 hnp (by omega) (by rw [hq8, c]) ep k2
      obtain ⟨c2, i1, i2, i3⟩ := ih (p + 1) fu (xup2 G 93 13 (c1 : Int)) c1 (by omega) (by omega) (h.u93 (.inl rfl)) (hA.ge (fun j => xup2_n (by omega)) (fun a j y => xup2_n (by omega))) (xup2_s _ _ _ _) k1
      refine ⟨c2, i1, by rw [st, i2, xup2_w], fun j => ?_⟩
      rw [i3 j, k3 j]
      constructor
      · rintro ((y | ⟨y1, y2⟩) | ⟨y1, y2⟩)
        · exact .inl y
        · exact .inr ⟨by omega, by omega, by rw [y1]; exact c, by rw [y1]; exact y2⟩
        · exact .inr ⟨by omega, y2⟩
      · rintro (y | ⟨y1, y2, y3, y4⟩)
        · exact .inl (.inl y)
        · by_cases cj : j = p
          · exact .inl (.inr ⟨cj, by rw [← cj]; exact y4⟩)
          · exact .inr ⟨by omega, y2, y3, y4⟩
    · have st : c149_237 f (fu + 1) 93 (rg : Int) (p : Int) (S, G, m) = _ := st_237n (r237 := c149_237 f fu) h.1.1 h.1.2.2.1 a5.1.1 a5.1.2.2.2.2.2.2.2.2.1 a5.2.1.2.2.2.2.2.2.2.1 a5.2.2.1.1 hnp (by omega) hq8 c ep
      obtain ⟨c2, i1, i2, i3⟩ := ih (p + 1) fu G ch (by omega) (by omega) h hA h13 hch
      refine ⟨c2, i1, st.trans i2, fun j => ?_⟩
      rw [i3 j]
      refine or_congr Iff.rfl ⟨fun ⟨y1, y2⟩ => ⟨by omega, y2⟩, fun ⟨y1, y2, y3, y4⟩ => ⟨?_, y2, y3, y4⟩⟩
      by_cases cj : j = p
      · rw [cj] at y3; exact absurd y3 c
      · omega
end
